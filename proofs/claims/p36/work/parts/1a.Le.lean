/-! blocks of ChipGame$Levels -/
theorem dX4_countAt_0 : decode cX4_countAt 0 = .ok (.iload_n 1, 1) := by decide +kernel
theorem dX4_countAt_1 : decode cX4_countAt 1 = .ok (.ifCond .lt 9, 3) := by decide +kernel
theorem dX4_countAt_4 : decode cX4_countAt 4 = .ok (.iload_n 1, 1) := by decide +kernel
theorem dX4_countAt_5 : decode cX4_countAt 5 = .ok (.bipush 21, 2) := by decide +kernel
theorem dX4_countAt_7 : decode cX4_countAt 7 = .ok (.if_icmp .lt 5, 3) := by decide +kernel
theorem dX4_countAt_10 : decode cX4_countAt 10 = .ok (.lconst 0, 1) := by decide +kernel
theorem dX4_countAt_11 : decode cX4_countAt 11 = .ok (.lreturn, 1) := by decide +kernel
theorem dX4_countAt_12 : decode cX4_countAt 12 = .ok (.aload_n 0, 1) := by decide +kernel
theorem dX4_countAt_13 : decode cX4_countAt 13 = .ok (.invokevirtual 28, 3) := by decide +kernel
theorem dX4_countAt_16 : decode cX4_countAt 16 = .ok (.iconst 1, 1) := by decide +kernel
theorem dX4_countAt_17 : decode cX4_countAt 17 = .ok (.aload_n 0, 1) := by decide +kernel
theorem dX4_countAt_18 : decode cX4_countAt 18 = .ok (.getfield 24, 3) := by decide +kernel
theorem dX4_countAt_21 : decode cX4_countAt 21 = .ok (.getfield 31, 3) := by decide +kernel
theorem dX4_countAt_24 : decode cX4_countAt 24 = .ok (.ishl, 1) := by decide +kernel
theorem dX4_countAt_25 : decode cX4_countAt 25 = .ok (.istore_n 2, 1) := by decide +kernel
theorem dX4_countAt_26 : decode cX4_countAt 26 = .ok (.iconst 1, 1) := by decide +kernel
theorem dX4_countAt_27 : decode cX4_countAt 27 = .ok (.istore_n 3, 1) := by decide +kernel
theorem dX4_countAt_28 : decode cX4_countAt 28 = .ok (.iload_n 3, 1) := by decide +kernel
theorem dX4_countAt_29 : decode cX4_countAt 29 = .ok (.iload_n 2, 1) := by decide +kernel
theorem dX4_countAt_30 : decode cX4_countAt 30 = .ok (.if_icmp .ge 21, 3) := by decide +kernel
theorem dX4_countAt_33 : decode cX4_countAt 33 = .ok (.iload_n 3, 1) := by decide +kernel
theorem dX4_countAt_34 : decode cX4_countAt 34 = .ok (.sipush 256, 3) := by decide +kernel
theorem dX4_countAt_37 : decode cX4_countAt 37 = .ok (.if_icmp .ge 14, 3) := by decide +kernel
theorem dX4_countAt_40 : decode cX4_countAt 40 = .ok (.aload_n 0, 1) := by decide +kernel
theorem dX4_countAt_41 : decode cX4_countAt 41 = .ok (.iload_n 3, 1) := by decide +kernel
theorem dX4_countAt_42 : decode cX4_countAt 42 = .ok (.invokevirtual 37, 3) := by decide +kernel
theorem dX4_countAt_45 : decode cX4_countAt 45 = .ok (.iinc 3 2, 3) := by decide +kernel
theorem dX4_countAt_48 : decode cX4_countAt 48 = .ok (.goto (-20), 3) := by decide +kernel
theorem dX4_countAt_51 : decode cX4_countAt 51 = .ok (.iload_n 2, 1) := by decide +kernel
theorem dX4_countAt_52 : decode cX4_countAt 52 = .ok (.iconst 1, 1) := by decide +kernel
theorem dX4_countAt_53 : decode cX4_countAt 53 = .ok (.isub, 1) := by decide +kernel
theorem dX4_countAt_54 : decode cX4_countAt 54 = .ok (.iconst 2, 1) := by decide +kernel
theorem dX4_countAt_55 : decode cX4_countAt 55 = .ok (.idiv, 1) := by decide +kernel
theorem dX4_countAt_56 : decode cX4_countAt 56 = .ok (.istore_n 3, 1) := by decide +kernel
theorem dX4_countAt_57 : decode cX4_countAt 57 = .ok (.iconst 0, 1) := by decide +kernel
theorem dX4_countAt_58 : decode cX4_countAt 58 = .ok (.istore 4, 2) := by decide +kernel
theorem dX4_countAt_60 : decode cX4_countAt 60 = .ok (.iload 4, 2) := by decide +kernel
theorem dX4_countAt_62 : decode cX4_countAt 62 = .ok (.bipush 21, 2) := by decide +kernel
theorem dX4_countAt_64 : decode cX4_countAt 64 = .ok (.if_icmp .ge 25, 3) := by decide +kernel
theorem dX4_countAt_67 : decode cX4_countAt 67 = .ok (.aload_n 0, 1) := by decide +kernel
theorem dX4_countAt_68 : decode cX4_countAt 68 = .ok (.getfield 20, 3) := by decide +kernel
theorem dX4_countAt_71 : decode cX4_countAt 71 = .ok (.iload 4, 2) := by decide +kernel
theorem dX4_countAt_73 : decode cX4_countAt 73 = .ok (.aload_n 0, 1) := by decide +kernel
theorem dX4_countAt_74 : decode cX4_countAt 74 = .ok (.getfield 17, 3) := by decide +kernel
theorem dX4_countAt_77 : decode cX4_countAt 77 = .ok (.iload_n 3, 1) := by decide +kernel
theorem dX4_countAt_78 : decode cX4_countAt 78 = .ok (.aaload, 1) := by decide +kernel
theorem dX4_countAt_79 : decode cX4_countAt 79 = .ok (.iload 4, 2) := by decide +kernel
theorem dX4_countAt_81 : decode cX4_countAt 81 = .ok (.laload, 1) := by decide +kernel
theorem dX4_countAt_82 : decode cX4_countAt 82 = .ok (.lastore, 1) := by decide +kernel
theorem dX4_countAt_83 : decode cX4_countAt 83 = .ok (.iinc 4 1, 3) := by decide +kernel
theorem dX4_countAt_86 : decode cX4_countAt 86 = .ok (.goto (-26), 3) := by decide +kernel
theorem dX4_countAt_89 : decode cX4_countAt 89 = .ok (.iconst 1, 1) := by decide +kernel
theorem dX4_countAt_90 : decode cX4_countAt 90 = .ok (.istore 4, 2) := by decide +kernel
theorem dX4_countAt_92 : decode cX4_countAt 92 = .ok (.iload 4, 2) := by decide +kernel
theorem dX4_countAt_94 : decode cX4_countAt 94 = .ok (.aload_n 0, 1) := by decide +kernel
theorem dX4_countAt_95 : decode cX4_countAt 95 = .ok (.getfield 24, 3) := by decide +kernel
theorem dX4_countAt_98 : decode cX4_countAt 98 = .ok (.getfield 31, 3) := by decide +kernel
theorem dX4_countAt_101 : decode cX4_countAt 101 = .ok (.if_icmp .ge 13, 3) := by decide +kernel
theorem dX4_countAt_104 : decode cX4_countAt 104 = .ok (.aload_n 0, 1) := by decide +kernel
theorem dX4_countAt_105 : decode cX4_countAt 105 = .ok (.invokevirtual 41, 3) := by decide +kernel
theorem dX4_countAt_108 : decode cX4_countAt 108 = .ok (.iinc 4 1, 3) := by decide +kernel
theorem dX4_countAt_111 : decode cX4_countAt 111 = .ok (.goto (-19), 3) := by decide +kernel
theorem dX4_countAt_114 : decode cX4_countAt 114 = .ok (.aload_n 0, 1) := by decide +kernel
theorem dX4_countAt_115 : decode cX4_countAt 115 = .ok (.getfield 20, 3) := by decide +kernel
theorem dX4_countAt_118 : decode cX4_countAt 118 = .ok (.iload_n 1, 1) := by decide +kernel
theorem dX4_countAt_119 : decode cX4_countAt 119 = .ok (.laload, 1) := by decide +kernel
theorem dX4_countAt_120 : decode cX4_countAt 120 = .ok (.lreturn, 1) := by decide +kernel
theorem dX4_countEdgesInside_0 : decode cX4_countEdgesInside 0 = .ok (.iconst 1, 1) := by decide +kernel
theorem dX4_countEdgesInside_1 : decode cX4_countEdgesInside 1 = .ok (.aload_n 0, 1) := by decide +kernel
theorem dX4_countEdgesInside_2 : decode cX4_countEdgesInside 2 = .ok (.getfield 24, 3) := by decide +kernel
theorem dX4_countEdgesInside_5 : decode cX4_countEdgesInside 5 = .ok (.getfield 31, 3) := by decide +kernel
theorem dX4_countEdgesInside_8 : decode cX4_countEdgesInside 8 = .ok (.ishl, 1) := by decide +kernel
theorem dX4_countEdgesInside_9 : decode cX4_countEdgesInside 9 = .ok (.istore_n 1, 1) := by decide +kernel
theorem dX4_countEdgesInside_10 : decode cX4_countEdgesInside 10 = .ok (.iconst 0, 1) := by decide +kernel
theorem dX4_countEdgesInside_11 : decode cX4_countEdgesInside 11 = .ok (.istore_n 2, 1) := by decide +kernel
theorem dX4_countEdgesInside_12 : decode cX4_countEdgesInside 12 = .ok (.iload_n 2, 1) := by decide +kernel
theorem dX4_countEdgesInside_13 : decode cX4_countEdgesInside 13 = .ok (.iload_n 1, 1) := by decide +kernel
theorem dX4_countEdgesInside_14 : decode cX4_countEdgesInside 14 = .ok (.if_icmp .ge 76, 3) := by decide +kernel
theorem dX4_countEdgesInside_17 : decode cX4_countEdgesInside 17 = .ok (.iload_n 2, 1) := by decide +kernel
theorem dX4_countEdgesInside_18 : decode cX4_countEdgesInside 18 = .ok (.sipush 256, 3) := by decide +kernel
theorem dX4_countEdgesInside_21 : decode cX4_countEdgesInside 21 = .ok (.if_icmp .ge 69, 3) := by decide +kernel
theorem dX4_countEdgesInside_24 : decode cX4_countEdgesInside 24 = .ok (.aload_n 0, 1) := by decide +kernel
theorem dX4_countEdgesInside_25 : decode cX4_countEdgesInside 25 = .ok (.getfield 11, 3) := by decide +kernel
theorem dX4_countEdgesInside_28 : decode cX4_countEdgesInside 28 = .ok (.iload_n 2, 1) := by decide +kernel
theorem dX4_countEdgesInside_29 : decode cX4_countEdgesInside 29 = .ok (.iconst 0, 1) := by decide +kernel
theorem dX4_countEdgesInside_30 : decode cX4_countEdgesInside 30 = .ok (.iastore, 1) := by decide +kernel
theorem dX4_countEdgesInside_31 : decode cX4_countEdgesInside 31 = .ok (.iconst 0, 1) := by decide +kernel
theorem dX4_countEdgesInside_32 : decode cX4_countEdgesInside 32 = .ok (.istore_n 3, 1) := by decide +kernel
theorem dX4_countEdgesInside_33 : decode cX4_countEdgesInside 33 = .ok (.iload_n 3, 1) := by decide +kernel
theorem dX4_countEdgesInside_34 : decode cX4_countEdgesInside 34 = .ok (.aload_n 0, 1) := by decide +kernel
theorem dX4_countEdgesInside_35 : decode cX4_countEdgesInside 35 = .ok (.getfield 24, 3) := by decide +kernel
theorem dX4_countEdgesInside_38 : decode cX4_countEdgesInside 38 = .ok (.getfield 44, 3) := by decide +kernel
theorem dX4_countEdgesInside_41 : decode cX4_countEdgesInside 41 = .ok (.if_icmp .ge 43, 3) := by decide +kernel
theorem dX4_countEdgesInside_44 : decode cX4_countEdgesInside 44 = .ok (.aload_n 0, 1) := by decide +kernel
theorem dX4_countEdgesInside_45 : decode cX4_countEdgesInside 45 = .ok (.getfield 11, 3) := by decide +kernel
theorem dX4_countEdgesInside_48 : decode cX4_countEdgesInside 48 = .ok (.iload_n 2, 1) := by decide +kernel
theorem dX4_countEdgesInside_49 : decode cX4_countEdgesInside 49 = .ok (.dup2, 1) := by decide +kernel
theorem dX4_countEdgesInside_50 : decode cX4_countEdgesInside 50 = .ok (.iaload, 1) := by decide +kernel
theorem dX4_countEdgesInside_51 : decode cX4_countEdgesInside 51 = .ok (.iload_n 2, 1) := by decide +kernel
theorem dX4_countEdgesInside_52 : decode cX4_countEdgesInside 52 = .ok (.aload_n 0, 1) := by decide +kernel
theorem dX4_countEdgesInside_53 : decode cX4_countEdgesInside 53 = .ok (.getfield 24, 3) := by decide +kernel
theorem dX4_countEdgesInside_56 : decode cX4_countEdgesInside 56 = .ok (.getfield 47, 3) := by decide +kernel
theorem dX4_countEdgesInside_59 : decode cX4_countEdgesInside 59 = .ok (.iload_n 3, 1) := by decide +kernel
theorem dX4_countEdgesInside_60 : decode cX4_countEdgesInside 60 = .ok (.iaload, 1) := by decide +kernel
theorem dX4_countEdgesInside_61 : decode cX4_countEdgesInside 61 = .ok (.ishr, 1) := by decide +kernel
theorem dX4_countEdgesInside_62 : decode cX4_countEdgesInside 62 = .ok (.iload_n 2, 1) := by decide +kernel
theorem dX4_countEdgesInside_63 : decode cX4_countEdgesInside 63 = .ok (.aload_n 0, 1) := by decide +kernel
theorem dX4_countEdgesInside_64 : decode cX4_countEdgesInside 64 = .ok (.getfield 24, 3) := by decide +kernel
theorem dX4_countEdgesInside_67 : decode cX4_countEdgesInside 67 = .ok (.getfield 50, 3) := by decide +kernel
theorem dX4_countEdgesInside_70 : decode cX4_countEdgesInside 70 = .ok (.iload_n 3, 1) := by decide +kernel
theorem dX4_countEdgesInside_71 : decode cX4_countEdgesInside 71 = .ok (.iaload, 1) := by decide +kernel
theorem dX4_countEdgesInside_72 : decode cX4_countEdgesInside 72 = .ok (.ishr, 1) := by decide +kernel
theorem dX4_countEdgesInside_73 : decode cX4_countEdgesInside 73 = .ok (.iand, 1) := by decide +kernel
theorem dX4_countEdgesInside_74 : decode cX4_countEdgesInside 74 = .ok (.iconst 1, 1) := by decide +kernel
theorem dX4_countEdgesInside_75 : decode cX4_countEdgesInside 75 = .ok (.iand, 1) := by decide +kernel
theorem dX4_countEdgesInside_76 : decode cX4_countEdgesInside 76 = .ok (.iadd, 1) := by decide +kernel
theorem dX4_countEdgesInside_77 : decode cX4_countEdgesInside 77 = .ok (.iastore, 1) := by decide +kernel
theorem dX4_countEdgesInside_78 : decode cX4_countEdgesInside 78 = .ok (.iinc 3 1, 3) := by decide +kernel
theorem dX4_countEdgesInside_81 : decode cX4_countEdgesInside 81 = .ok (.goto (-48), 3) := by decide +kernel
theorem dX4_countEdgesInside_84 : decode cX4_countEdgesInside 84 = .ok (.iinc 2 1, 3) := by decide +kernel
theorem dX4_countEdgesInside_87 : decode cX4_countEdgesInside 87 = .ok (.goto (-75), 3) := by decide +kernel
theorem dX4_countEdgesInside_90 : decode cX4_countEdgesInside 90 = .ok (.return_, 1) := by decide +kernel
theorem dX4_sumConnected_0 : decode cX4_sumConnected 0 = .ok (.aload_n 0, 1) := by decide +kernel
theorem dX4_sumConnected_1 : decode cX4_sumConnected 1 = .ok (.getfield 17, 3) := by decide +kernel
theorem dX4_sumConnected_4 : decode cX4_sumConnected 4 = .ok (.iload_n 1, 1) := by decide +kernel
theorem dX4_sumConnected_5 : decode cX4_sumConnected 5 = .ok (.iconst 2, 1) := by decide +kernel
theorem dX4_sumConnected_6 : decode cX4_sumConnected 6 = .ok (.idiv, 1) := by decide +kernel
theorem dX4_sumConnected_7 : decode cX4_sumConnected 7 = .ok (.aaload, 1) := by decide +kernel
theorem dX4_sumConnected_8 : decode cX4_sumConnected 8 = .ok (.astore_n 2, 1) := by decide +kernel
theorem dX4_sumConnected_9 : decode cX4_sumConnected 9 = .ok (.iconst 0, 1) := by decide +kernel
theorem dX4_sumConnected_10 : decode cX4_sumConnected 10 = .ok (.istore_n 3, 1) := by decide +kernel
theorem dX4_sumConnected_11 : decode cX4_sumConnected 11 = .ok (.iload_n 3, 1) := by decide +kernel
theorem dX4_sumConnected_12 : decode cX4_sumConnected 12 = .ok (.bipush 21, 2) := by decide +kernel
theorem dX4_sumConnected_14 : decode cX4_sumConnected 14 = .ok (.if_icmp .ge 27, 3) := by decide +kernel
theorem dX4_sumConnected_17 : decode cX4_sumConnected 17 = .ok (.aload_n 2, 1) := by decide +kernel
theorem dX4_sumConnected_18 : decode cX4_sumConnected 18 = .ok (.iload_n 3, 1) := by decide +kernel
theorem dX4_sumConnected_19 : decode cX4_sumConnected 19 = .ok (.iload_n 3, 1) := by decide +kernel
theorem dX4_sumConnected_20 : decode cX4_sumConnected 20 = .ok (.aload_n 0, 1) := by decide +kernel
theorem dX4_sumConnected_21 : decode cX4_sumConnected 21 = .ok (.getfield 11, 3) := by decide +kernel
theorem dX4_sumConnected_24 : decode cX4_sumConnected 24 = .ok (.iload_n 1, 1) := by decide +kernel
theorem dX4_sumConnected_25 : decode cX4_sumConnected 25 = .ok (.iaload, 1) := by decide +kernel
theorem dX4_sumConnected_26 : decode cX4_sumConnected 26 = .ok (.if_icmp .ne 7, 3) := by decide +kernel
theorem dX4_sumConnected_29 : decode cX4_sumConnected 29 = .ok (.lconst 1, 1) := by decide +kernel
theorem dX4_sumConnected_30 : decode cX4_sumConnected 30 = .ok (.goto 4, 3) := by decide +kernel
theorem dX4_sumConnected_33 : decode cX4_sumConnected 33 = .ok (.lconst 0, 1) := by decide +kernel
theorem dX4_sumConnected_34 : decode cX4_sumConnected 34 = .ok (.lastore, 1) := by decide +kernel
theorem dX4_sumConnected_35 : decode cX4_sumConnected 35 = .ok (.iinc 3 1, 3) := by decide +kernel
theorem dX4_sumConnected_38 : decode cX4_sumConnected 38 = .ok (.goto (-27), 3) := by decide +kernel
theorem dX4_sumConnected_41 : decode cX4_sumConnected 41 = .ok (.iconst 1, 1) := by decide +kernel
theorem dX4_sumConnected_42 : decode cX4_sumConnected 42 = .ok (.istore_n 3, 1) := by decide +kernel
theorem dX4_sumConnected_43 : decode cX4_sumConnected 43 = .ok (.iload_n 3, 1) := by decide +kernel
theorem dX4_sumConnected_44 : decode cX4_sumConnected 44 = .ok (.iload_n 1, 1) := by decide +kernel
theorem dX4_sumConnected_45 : decode cX4_sumConnected 45 = .ok (.if_icmp .ge 39, 3) := by decide +kernel
theorem dX4_sumConnected_48 : decode cX4_sumConnected 48 = .ok (.iload_n 3, 1) := by decide +kernel
theorem dX4_sumConnected_49 : decode cX4_sumConnected 49 = .ok (.iload_n 1, 1) := by decide +kernel
theorem dX4_sumConnected_50 : decode cX4_sumConnected 50 = .ok (.iconst (-1), 1) := by decide +kernel
theorem dX4_sumConnected_51 : decode cX4_sumConnected 51 = .ok (.ixor, 1) := by decide +kernel
theorem dX4_sumConnected_52 : decode cX4_sumConnected 52 = .ok (.iand, 1) := by decide +kernel
theorem dX4_sumConnected_53 : decode cX4_sumConnected 53 = .ok (.ifCond .ne 25, 3) := by decide +kernel
theorem dX4_sumConnected_56 : decode cX4_sumConnected 56 = .ok (.aload_n 2, 1) := by decide +kernel
theorem dX4_sumConnected_57 : decode cX4_sumConnected 57 = .ok (.aload_n 0, 1) := by decide +kernel
theorem dX4_sumConnected_58 : decode cX4_sumConnected 58 = .ok (.getfield 17, 3) := by decide +kernel
theorem dX4_sumConnected_61 : decode cX4_sumConnected 61 = .ok (.iload_n 3, 1) := by decide +kernel
theorem dX4_sumConnected_62 : decode cX4_sumConnected 62 = .ok (.iconst 2, 1) := by decide +kernel
theorem dX4_sumConnected_63 : decode cX4_sumConnected 63 = .ok (.idiv, 1) := by decide +kernel
theorem dX4_sumConnected_64 : decode cX4_sumConnected 64 = .ok (.aaload, 1) := by decide +kernel
theorem dX4_sumConnected_65 : decode cX4_sumConnected 65 = .ok (.aload_n 0, 1) := by decide +kernel
theorem dX4_sumConnected_66 : decode cX4_sumConnected 66 = .ok (.getfield 11, 3) := by decide +kernel
theorem dX4_sumConnected_69 : decode cX4_sumConnected 69 = .ok (.iload_n 1, 1) := by decide +kernel
theorem dX4_sumConnected_70 : decode cX4_sumConnected 70 = .ok (.iload_n 3, 1) := by decide +kernel
theorem dX4_sumConnected_71 : decode cX4_sumConnected 71 = .ok (.iconst (-1), 1) := by decide +kernel
theorem dX4_sumConnected_72 : decode cX4_sumConnected 72 = .ok (.ixor, 1) := by decide +kernel
theorem dX4_sumConnected_73 : decode cX4_sumConnected 73 = .ok (.iand, 1) := by decide +kernel
theorem dX4_sumConnected_74 : decode cX4_sumConnected 74 = .ok (.iaload, 1) := by decide +kernel
theorem dX4_sumConnected_75 : decode cX4_sumConnected 75 = .ok (.invokestatic 53, 3) := by decide +kernel
theorem dX4_sumConnected_78 : decode cX4_sumConnected 78 = .ok (.iinc 3 2, 3) := by decide +kernel
theorem dX4_sumConnected_81 : decode cX4_sumConnected 81 = .ok (.goto (-38), 3) := by decide +kernel
theorem dX4_sumConnected_84 : decode cX4_sumConnected 84 = .ok (.return_, 1) := by decide +kernel
theorem dX4_subtractShifted_0 : decode cX4_subtractShifted 0 = .ok (.iconst 0, 1) := by decide +kernel
theorem dX4_subtractShifted_1 : decode cX4_subtractShifted 1 = .ok (.istore_n 3, 1) := by decide +kernel
theorem dX4_subtractShifted_2 : decode cX4_subtractShifted 2 = .ok (.iload_n 3, 1) := by decide +kernel
theorem dX4_subtractShifted_3 : decode cX4_subtractShifted 3 = .ok (.aload_n 1, 1) := by decide +kernel
theorem dX4_subtractShifted_4 : decode cX4_subtractShifted 4 = .ok (.arraylength, 1) := by decide +kernel
theorem dX4_subtractShifted_5 : decode cX4_subtractShifted 5 = .ok (.if_icmp .ge 28, 3) := by decide +kernel
theorem dX4_subtractShifted_8 : decode cX4_subtractShifted 8 = .ok (.iload_n 3, 1) := by decide +kernel
theorem dX4_subtractShifted_9 : decode cX4_subtractShifted 9 = .ok (.iload_n 2, 1) := by decide +kernel
theorem dX4_subtractShifted_10 : decode cX4_subtractShifted 10 = .ok (.iadd, 1) := by decide +kernel
theorem dX4_subtractShifted_11 : decode cX4_subtractShifted 11 = .ok (.aload_n 0, 1) := by decide +kernel
theorem dX4_subtractShifted_12 : decode cX4_subtractShifted 12 = .ok (.arraylength, 1) := by decide +kernel
theorem dX4_subtractShifted_13 : decode cX4_subtractShifted 13 = .ok (.if_icmp .ge 20, 3) := by decide +kernel
theorem dX4_subtractShifted_16 : decode cX4_subtractShifted 16 = .ok (.aload_n 0, 1) := by decide +kernel
theorem dX4_subtractShifted_17 : decode cX4_subtractShifted 17 = .ok (.iload_n 3, 1) := by decide +kernel
theorem dX4_subtractShifted_18 : decode cX4_subtractShifted 18 = .ok (.iload_n 2, 1) := by decide +kernel
theorem dX4_subtractShifted_19 : decode cX4_subtractShifted 19 = .ok (.iadd, 1) := by decide +kernel
theorem dX4_subtractShifted_20 : decode cX4_subtractShifted 20 = .ok (.dup2, 1) := by decide +kernel
theorem dX4_subtractShifted_21 : decode cX4_subtractShifted 21 = .ok (.laload, 1) := by decide +kernel
theorem dX4_subtractShifted_22 : decode cX4_subtractShifted 22 = .ok (.aload_n 1, 1) := by decide +kernel
theorem dX4_subtractShifted_23 : decode cX4_subtractShifted 23 = .ok (.iload_n 3, 1) := by decide +kernel
theorem dX4_subtractShifted_24 : decode cX4_subtractShifted 24 = .ok (.laload, 1) := by decide +kernel
theorem dX4_subtractShifted_25 : decode cX4_subtractShifted 25 = .ok (.lsub, 1) := by decide +kernel
theorem dX4_subtractShifted_26 : decode cX4_subtractShifted 26 = .ok (.lastore, 1) := by decide +kernel
theorem dX4_subtractShifted_27 : decode cX4_subtractShifted 27 = .ok (.iinc 3 1, 3) := by decide +kernel
theorem dX4_subtractShifted_30 : decode cX4_subtractShifted 30 = .ok (.goto (-28), 3) := by decide +kernel
theorem dX4_subtractShifted_33 : decode cX4_subtractShifted 33 = .ok (.return_, 1) := by decide +kernel
theorem dX4_divideByYMinusOne_0 : decode cX4_divideByYMinusOne 0 = .ok (.lconst 0, 1) := by decide +kernel
theorem dX4_divideByYMinusOne_1 : decode cX4_divideByYMinusOne 1 = .ok (.lstore_n 1, 1) := by decide +kernel
theorem dX4_divideByYMinusOne_2 : decode cX4_divideByYMinusOne 2 = .ok (.bipush 20, 2) := by decide +kernel
theorem dX4_divideByYMinusOne_4 : decode cX4_divideByYMinusOne 4 = .ok (.istore_n 3, 1) := by decide +kernel
theorem dX4_divideByYMinusOne_5 : decode cX4_divideByYMinusOne 5 = .ok (.iload_n 3, 1) := by decide +kernel
theorem dX4_divideByYMinusOne_6 : decode cX4_divideByYMinusOne 6 = .ok (.ifCond .lt 29, 3) := by decide +kernel
theorem dX4_divideByYMinusOne_9 : decode cX4_divideByYMinusOne 9 = .ok (.aload_n 0, 1) := by decide +kernel
theorem dX4_divideByYMinusOne_10 : decode cX4_divideByYMinusOne 10 = .ok (.getfield 20, 3) := by decide +kernel
theorem dX4_divideByYMinusOne_13 : decode cX4_divideByYMinusOne 13 = .ok (.iload_n 3, 1) := by decide +kernel
theorem dX4_divideByYMinusOne_14 : decode cX4_divideByYMinusOne 14 = .ok (.laload, 1) := by decide +kernel
theorem dX4_divideByYMinusOne_15 : decode cX4_divideByYMinusOne 15 = .ok (.lstore 4, 2) := by decide +kernel
theorem dX4_divideByYMinusOne_17 : decode cX4_divideByYMinusOne 17 = .ok (.aload_n 0, 1) := by decide +kernel
theorem dX4_divideByYMinusOne_18 : decode cX4_divideByYMinusOne 18 = .ok (.getfield 20, 3) := by decide +kernel
theorem dX4_divideByYMinusOne_21 : decode cX4_divideByYMinusOne 21 = .ok (.iload_n 3, 1) := by decide +kernel
theorem dX4_divideByYMinusOne_22 : decode cX4_divideByYMinusOne 22 = .ok (.lload_n 1, 1) := by decide +kernel
theorem dX4_divideByYMinusOne_23 : decode cX4_divideByYMinusOne 23 = .ok (.lastore, 1) := by decide +kernel
theorem dX4_divideByYMinusOne_24 : decode cX4_divideByYMinusOne 24 = .ok (.lload_n 1, 1) := by decide +kernel
theorem dX4_divideByYMinusOne_25 : decode cX4_divideByYMinusOne 25 = .ok (.lload 4, 2) := by decide +kernel
theorem dX4_divideByYMinusOne_27 : decode cX4_divideByYMinusOne 27 = .ok (.ladd, 1) := by decide +kernel
theorem dX4_divideByYMinusOne_28 : decode cX4_divideByYMinusOne 28 = .ok (.lstore_n 1, 1) := by decide +kernel
theorem dX4_divideByYMinusOne_29 : decode cX4_divideByYMinusOne 29 = .ok (.iinc 3 (-1), 3) := by decide +kernel
theorem dX4_divideByYMinusOne_32 : decode cX4_divideByYMinusOne 32 = .ok (.goto (-27), 3) := by decide +kernel
theorem dX4_divideByYMinusOne_35 : decode cX4_divideByYMinusOne 35 = .ok (.return_, 1) := by decide +kernel
abbrev H_Le_countEdgesInside_12 (n : Nat) (Q : Sto → Prop) (x1 : Int) (x2 : Int) (s : Sto) : Prop := Go (SL n) M_Le_countEdgesInside (fV0 Q) 0 0 12 [(0, .ref 55), (1, iV x1), (2, iV x2)] [] s
abbrev H_Le_countEdgesInside_33 (n : Nat) (Q : Sto → Prop) (x1 : Int) (x2 : Int) (x3 : Int) (s : Sto) : Prop := Go (SL n) M_Le_countEdgesInside (fV0 Q) 0 0 33 [(0, .ref 55), (1, iV x1), (2, iV x2), (3, iV x3)] [] s
set_option maxRecDepth 20000 in
theorem b_Le_countEdgesInside_12 {n : Nat} {Q : Sto → Prop} {x1 : Int} {x2 : Int} {s : Sto} (hT : ((-2147483648 ≤ x2 ∧ x2 < 2147483648) ∧ -2147483648 ≤ x1 ∧ x1 < 2147483648) ∧ ((x1 ≤ x2) → Q s) ∧ ((x2 < x1) → (-2147483648 ≤ x2 ∧ x2 < 2147483648) ∧ ((256 ≤ x2) → Q s) ∧ ((x2 < 256) → (0 ≤ x2 ∧ x2 < 256) ∧ ∀ s6, s6 = up s 56 (Int.toNat x2) 0 → H_Le_countEdgesInside_33 n Q x1 x2 0 s6))) : H_Le_countEdgesInside_12 n Q x1 x2 s := by
  refine g_iload_n (npc := 13) dX4_countEdgesInside_12 rfl rfl rfl ?_
  refine g_iload_n (npc := 14) dX4_countEdgesInside_13 rfl rfl rfl ?_
  obtain ⟨h1, hTt, hTf⟩ := hT
  refine g_icmp_ge (npc := 17) (tgt := 90) dX4_countEdgesInside_14 rfl (by decide) h1 (fun c2 => ?_) (fun c2 => ?_)
  · replace hT := hTt c2
    exact g_ret dX4_countEdgesInside_90 rfl (by decide) ⟨rfl, hT⟩
  · replace hT := hTf (Int.not_le.mp c2)
    refine g_iload_n (npc := 18) dX4_countEdgesInside_17 rfl rfl rfl ?_
    refine g_sipush (npc := 21) (x := 256) dX4_countEdgesInside_18 rfl (by decide) ?_
    obtain ⟨h3, hTt, hTf⟩ := hT
    refine g_icmp_ge (npc := 24) (tgt := 90) dX4_countEdgesInside_21 rfl (by decide) ⟨h3, by decide, by decide⟩ (fun c4 => ?_) (fun c4 => ?_)
    · replace hT := hTt c4
      exact g_ret dX4_countEdgesInside_90 rfl (by decide) ⟨rfl, hT⟩
    · replace hT := hTf (Int.not_le.mp c4)
      refine g_aload_n (npc := 25) dX4_countEdgesInside_24 rfl rfl rfl ?_
      refine gf_Le_11 (npc := 28) dX4_countEdgesInside_25 rfl rfl ?_
      refine g_iload_n (npc := 29) dX4_countEdgesInside_28 rfl rfl rfl ?_
      refine g_iconst (npc := 30) dX4_countEdgesInside_29 rfl ?_
      obtain ⟨h5, hT⟩ := hT
      replace hT := hT _ rfl
      refine g_iast (npc := 31) dX4_countEdgesInside_30 rfl (arSL arSC_56) h5  ?_
      refine g_iconst (npc := 32) dX4_countEdgesInside_31 rfl ?_
      refine g_istore_n (npc := 33) (l' := [(0, .ref 55), (1, iV x1), (2, iV x2), (3, iV 0)]) dX4_countEdgesInside_32 rfl rfl (by decide) rfl ?_
      exact hT
set_option maxRecDepth 20000 in
theorem b_Le_countEdgesInside_33 {n : Nat} {Q : Sto → Prop} {x1 : Int} {x2 : Int} {x3 : Int} {s : Sto} (hT : ((-2147483648 ≤ x3 ∧ x3 < 2147483648) ∧ -2147483648 ≤ (s 1 1) ∧ (s 1 1) < 2147483648) ∧ (((s 1 1) ≤ x3) → H_Le_countEdgesInside_12 n Q x1 (x2 + 1) s) ∧ ((x3 < (s 1 1)) → (0 ≤ x2 ∧ x2 < 256) ∧ (0 ≤ x3 ∧ x3 < 20) ∧ (0 ≤ x3 ∧ x3 < 20) ∧ (0 ≤ x2 ∧ x2 < 256) ∧ ∀ s13, s13 = up s 56 (Int.toNat x2) ((s 56 (Int.toNat x2)) + (iand (iand (ishr x2 (s 2 (Int.toNat x3))) (ishr x2 (s 3 (Int.toNat x3)))) 1)) → H_Le_countEdgesInside_33 n Q x1 x2 (x3 + 1) s13)) : H_Le_countEdgesInside_33 n Q x1 x2 x3 s := by
  refine g_iload_n (npc := 34) dX4_countEdgesInside_33 rfl rfl rfl ?_
  refine g_aload_n (npc := 35) dX4_countEdgesInside_34 rfl rfl rfl ?_
  refine gf_Le_24 (npc := 38) dX4_countEdgesInside_35 rfl rfl ?_
  refine gf_Le_44 (npc := 41) dX4_countEdgesInside_38 rfl rfl ?_
  obtain ⟨h7, hTt, hTf⟩ := hT
  refine g_icmp_ge (npc := 44) (tgt := 84) dX4_countEdgesInside_41 rfl (by decide) h7 (fun c8 => ?_) (fun c8 => ?_)
  · replace hT := hTt c8
    refine g_iinc (npc := 87) (y := (x2 + 1)) (l' := [(0, .ref 55), (1, iV x1), (2, iV (x2 + 1)), (3, iV x3)]) dX4_countEdgesInside_84 rfl (by decide) rfl (by omega) rfl ?_
    refine g_goto (npc := 12) dX4_countEdgesInside_87 (by decide) ?_
    refine Go.lsub [0, 1, 2] rfl ?_
    exact hT
  · replace hT := hTf (Int.not_le.mp c8)
    refine g_aload_n (npc := 45) dX4_countEdgesInside_44 rfl rfl rfl ?_
    refine gf_Le_11 (npc := 48) dX4_countEdgesInside_45 rfl rfl ?_
    refine g_iload_n (npc := 49) dX4_countEdgesInside_48 rfl rfl rfl ?_
    refine g_dup2 (npc := 50) dX4_countEdgesInside_49 rfl rfl rfl ?_
    obtain ⟨h9, hT⟩ := hT
    refine g_iald (npc := 51) dX4_countEdgesInside_50 rfl (arSL arSC_56) h9 ?_
    refine g_iload_n (npc := 52) dX4_countEdgesInside_51 rfl rfl rfl ?_
    refine g_aload_n (npc := 53) dX4_countEdgesInside_52 rfl rfl rfl ?_
    refine gf_Le_24 (npc := 56) dX4_countEdgesInside_53 rfl rfl ?_
    refine gf_Le_47 (npc := 59) dX4_countEdgesInside_56 rfl rfl ?_
    refine g_iload_n (npc := 60) dX4_countEdgesInside_59 rfl rfl rfl ?_
    obtain ⟨h10, hT⟩ := hT
    refine g_iald (npc := 61) dX4_countEdgesInside_60 rfl (arSL arSC_2) h10 ?_
    refine g_ishr (npc := 62) dX4_countEdgesInside_61 rfl ?_
    refine g_iload_n (npc := 63) dX4_countEdgesInside_62 rfl rfl rfl ?_
    refine g_aload_n (npc := 64) dX4_countEdgesInside_63 rfl rfl rfl ?_
    refine gf_Le_24 (npc := 67) dX4_countEdgesInside_64 rfl rfl ?_
    refine gf_Le_50 (npc := 70) dX4_countEdgesInside_67 rfl rfl ?_
    refine g_iload_n (npc := 71) dX4_countEdgesInside_70 rfl rfl rfl ?_
    obtain ⟨h11, hT⟩ := hT
    refine g_iald (npc := 72) dX4_countEdgesInside_71 rfl (arSL arSC_3) h11 ?_
    refine g_ishr (npc := 73) dX4_countEdgesInside_72 rfl ?_
    refine g_iand (npc := 74) dX4_countEdgesInside_73 rfl ?_
    refine g_iconst (npc := 75) dX4_countEdgesInside_74 rfl ?_
    refine g_iand (npc := 76) dX4_countEdgesInside_75 rfl ?_
    refine g_iadd (npc := 77) dX4_countEdgesInside_76 rfl ?_
    obtain ⟨h12, hT⟩ := hT
    replace hT := hT _ rfl
    refine g_iast (npc := 78) dX4_countEdgesInside_77 rfl (arSL arSC_56) h12  ?_
    refine g_iinc (npc := 81) (y := (x3 + 1)) (l' := [(0, .ref 55), (1, iV x1), (2, iV x2), (3, iV (x3 + 1))]) dX4_countEdgesInside_78 rfl (by decide) rfl (by omega) rfl ?_
    refine g_goto (npc := 33) dX4_countEdgesInside_81 (by decide) ?_
    exact hT
set_option maxRecDepth 20000 in
theorem e_Le_countEdgesInside {n : Nat} {s : Sto} {Q : Sto → Prop} (hT : H_Le_countEdgesInside_12 n Q (ishl 1 (s 1 0)) 0 s) : K_Le_countEdgesInside n s Q := by
  refine Sp.body (by decide +kernel) (Nat.le_of_ble_eq_true rfl) ?_
  show Go (SL n) M_Le_countEdgesInside (fV0 Q) 0 0 0 [(0, .ref 55)] [] s
  refine g_iconst (npc := 1) dX4_countEdgesInside_0 rfl ?_
  refine g_aload_n (npc := 2) dX4_countEdgesInside_1 rfl rfl rfl ?_
  refine gf_Le_24 (npc := 5) dX4_countEdgesInside_2 rfl rfl ?_
  refine gf_Le_31 (npc := 8) dX4_countEdgesInside_5 rfl rfl ?_
  refine g_ishl (npc := 9) dX4_countEdgesInside_8 rfl ?_
  refine g_istore_n (npc := 10) (l' := [(0, .ref 55), (1, iV (ishl 1 (s 1 0)))]) dX4_countEdgesInside_9 rfl rfl (by decide) rfl ?_
  refine g_iconst (npc := 11) dX4_countEdgesInside_10 rfl ?_
  refine g_istore_n (npc := 12) (l' := [(0, .ref 55), (1, iV (ishl 1 (s 1 0))), (2, iV 0)]) dX4_countEdgesInside_11 rfl rfl (by decide) rfl ?_
  exact hT
abbrev H_Le_subtractShifted_2 (n : Nat) (Q : Sto → Prop) (k0 : Nat) (k1 : Nat) (x2 : Int) (x3 : Int) (s : Sto) : Prop := Go (SL n) M_Le_subtractShifted (fV0 Q) 0 0 2 [(0, .ref k0), (1, .ref k1), (2, iV x2), (3, iV x3)] [] s
set_option maxRecDepth 20000 in
theorem b_Le_subtractShifted_2 {n : Nat} {Q : Sto → Prop} {k0 : Nat} {k1 : Nat} {x2 : Int} {x3 : Int} (hk0 : ar (SL n) k0 2 21) (hk1 : ar (SL n) k1 2 21) {s : Sto} (hT : (-2147483648 ≤ x3 ∧ x3 < 2147483648) ∧ ((21 ≤ x3) → Q s) ∧ ((x3 < 21) → (-2147483648 ≤ (x3 + x2) ∧ (x3 + x2) < 2147483648) ∧ ((21 ≤ (x3 + x2)) → Q s) ∧ (((x3 + x2) < 21) → (0 ≤ (x3 + x2) ∧ (x3 + x2) < 21) ∧ (0 ≤ x3 ∧ x3 < 21) ∧ (0 ≤ (x3 + x2) ∧ (x3 + x2) < 21) ∧ ∀ s8, s8 = up s k0 (Int.toNat (x3 + x2)) ((s k0 (Int.toNat (x3 + x2))) - (s k1 (Int.toNat x3))) → H_Le_subtractShifted_2 n Q k0 k1 x2 (x3 + 1) s8))) : H_Le_subtractShifted_2 n Q k0 k1 x2 x3 s := by
  refine g_iload_n (npc := 3) dX4_subtractShifted_2 rfl rfl rfl ?_
  refine g_aload_n (npc := 4) dX4_subtractShifted_3 rfl rfl rfl ?_
  refine g_alen (npc := 5) dX4_subtractShifted_4 rfl hk1 (by decide) ?_
  obtain ⟨h1, hTt, hTf⟩ := hT
  refine g_icmp_ge (npc := 8) (tgt := 33) dX4_subtractShifted_5 rfl (by decide) ⟨h1, by decide, by decide⟩ (fun c2 => ?_) (fun c2 => ?_)
  · replace hT := hTt c2
    exact g_ret dX4_subtractShifted_33 rfl (by decide) ⟨rfl, hT⟩
  · replace hT := hTf (Int.not_le.mp c2)
    refine g_iload_n (npc := 9) dX4_subtractShifted_8 rfl rfl rfl ?_
    refine g_iload_n (npc := 10) dX4_subtractShifted_9 rfl rfl rfl ?_
    refine g_iadd (npc := 11) dX4_subtractShifted_10 rfl ?_
    refine g_aload_n (npc := 12) dX4_subtractShifted_11 rfl rfl rfl ?_
    refine g_alen (npc := 13) dX4_subtractShifted_12 rfl hk0 (by decide) ?_
    obtain ⟨h3, hTt, hTf⟩ := hT
    refine g_icmp_ge (npc := 16) (tgt := 33) dX4_subtractShifted_13 rfl (by decide) ⟨h3, by decide, by decide⟩ (fun c4 => ?_) (fun c4 => ?_)
    · replace hT := hTt c4
      exact g_ret dX4_subtractShifted_33 rfl (by decide) ⟨rfl, hT⟩
    · replace hT := hTf (Int.not_le.mp c4)
      refine g_aload_n (npc := 17) dX4_subtractShifted_16 rfl rfl rfl ?_
      refine g_iload_n (npc := 18) dX4_subtractShifted_17 rfl rfl rfl ?_
      refine g_iload_n (npc := 19) dX4_subtractShifted_18 rfl rfl rfl ?_
      refine g_iadd (npc := 20) dX4_subtractShifted_19 rfl ?_
      refine g_dup2 (npc := 21) dX4_subtractShifted_20 rfl rfl rfl ?_
      obtain ⟨h5, hT⟩ := hT
      refine g_lald (npc := 22) dX4_subtractShifted_21 rfl hk0 h5 ?_
      refine g_aload_n (npc := 23) dX4_subtractShifted_22 rfl rfl rfl ?_
      refine g_iload_n (npc := 24) dX4_subtractShifted_23 rfl rfl rfl ?_
      obtain ⟨h6, hT⟩ := hT
      refine g_lald (npc := 25) dX4_subtractShifted_24 rfl hk1 h6 ?_
      refine g_lsub (npc := 26) dX4_subtractShifted_25 rfl ?_
      obtain ⟨h7, hT⟩ := hT
      replace hT := hT _ rfl
      refine g_last (npc := 27) dX4_subtractShifted_26 rfl hk0 h7  ?_
      refine g_iinc (npc := 30) (y := (x3 + 1)) (l' := [(0, .ref k0), (1, .ref k1), (2, iV x2), (3, iV (x3 + 1))]) dX4_subtractShifted_27 rfl (by decide) rfl (by omega) rfl ?_
      refine g_goto (npc := 2) dX4_subtractShifted_30 (by decide) ?_
      exact hT
set_option maxRecDepth 20000 in
theorem e_Le_subtractShifted {n : Nat} {k0 : Nat} {k1 : Nat} {x2 : Int} (hk0 : ar (SL n) k0 2 21) (hk1 : ar (SL n) k1 2 21) {s : Sto} {Q : Sto → Prop} (hT : H_Le_subtractShifted_2 n Q k0 k1 x2 0 s) : K_Le_subtractShifted n k0 k1 x2 s Q := by
  refine Sp.body (by decide +kernel) (Nat.le_of_ble_eq_true rfl) ?_
  show Go (SL n) M_Le_subtractShifted (fV0 Q) 0 0 0 [(0, .ref k0), (1, .ref k1), (2, iV x2)] [] s
  refine g_iconst (npc := 1) dX4_subtractShifted_0 rfl ?_
  refine g_istore_n (npc := 2) (l' := [(0, .ref k0), (1, .ref k1), (2, iV x2), (3, iV 0)]) dX4_subtractShifted_1 rfl rfl (by decide) rfl ?_
  exact hT
abbrev H_Le_sumConnected_11 (n : Nat) (Q : Sto → Prop) (x1 : Int) (k2 : Nat) (x3 : Int) (s : Sto) : Prop := Go (SL n) M_Le_sumConnected (fV0 Q) 0 0 11 [(0, .ref 55), (1, iV x1), (2, .ref k2), (3, iV x3)] [] s
abbrev H_Le_sumConnected_43 (n : Nat) (Q : Sto → Prop) (x1 : Int) (k2 : Nat) (x3 : Int) (s : Sto) : Prop := Go (SL n) M_Le_sumConnected (fV0 Q) 0 0 43 [(0, .ref 55), (1, iV x1), (2, .ref k2), (3, iV x3)] [] s
set_option maxRecDepth 20000 in
theorem b_Le_sumConnected_11 {n : Nat} {Q : Sto → Prop} {x1 : Int} {k2 : Nat} {x3 : Int} (hk2 : ar (SL n) k2 2 21) {s : Sto} (hT : (-2147483648 ≤ x3 ∧ x3 < 2147483648) ∧ ((21 ≤ x3) → H_Le_sumConnected_43 n Q x1 k2 1 s) ∧ ((x3 < 21) → (0 ≤ x1 ∧ x1 < 256) ∧ ((-2147483648 ≤ x3 ∧ x3 < 2147483648) ∧ -2147483648 ≤ (s 56 (Int.toNat x1)) ∧ (s 56 (Int.toNat x1)) < 2147483648) ∧ ((¬ x3 = (s 56 (Int.toNat x1))) → (0 ≤ x3 ∧ x3 < 21) ∧ ∀ s9, s9 = up s k2 (Int.toNat x3) 0 → H_Le_sumConnected_11 n Q x1 k2 (x3 + 1) s9) ∧ ((x3 = (s 56 (Int.toNat x1))) → (0 ≤ x3 ∧ x3 < 21) ∧ ∀ s11, s11 = up s k2 (Int.toNat x3) 1 → H_Le_sumConnected_11 n Q x1 k2 (x3 + 1) s11))) : H_Le_sumConnected_11 n Q x1 k2 x3 s := by
  refine g_iload_n (npc := 12) dX4_sumConnected_11 rfl rfl rfl ?_
  refine g_bipush (npc := 14) (x := 21) dX4_sumConnected_12 rfl (by decide) ?_
  obtain ⟨h3, hTt, hTf⟩ := hT
  refine g_icmp_ge (npc := 17) (tgt := 41) dX4_sumConnected_14 rfl (by decide) ⟨h3, by decide, by decide⟩ (fun c4 => ?_) (fun c4 => ?_)
  · replace hT := hTt c4
    refine g_iconst (npc := 42) dX4_sumConnected_41 rfl ?_
    refine g_istore_n (npc := 43) (l' := [(0, .ref 55), (1, iV x1), (2, .ref k2), (3, iV 1)]) dX4_sumConnected_42 rfl rfl (by decide) rfl ?_
    exact hT
  · replace hT := hTf (Int.not_le.mp c4)
    refine g_aload_n (npc := 18) dX4_sumConnected_17 rfl rfl rfl ?_
    refine g_iload_n (npc := 19) dX4_sumConnected_18 rfl rfl rfl ?_
    refine g_iload_n (npc := 20) dX4_sumConnected_19 rfl rfl rfl ?_
    refine g_aload_n (npc := 21) dX4_sumConnected_20 rfl rfl rfl ?_
    refine gf_Le_11 (npc := 24) dX4_sumConnected_21 rfl rfl ?_
    refine g_iload_n (npc := 25) dX4_sumConnected_24 rfl rfl rfl ?_
    obtain ⟨h5, hT⟩ := hT
    refine g_iald (npc := 26) dX4_sumConnected_25 rfl (arSL arSC_56) h5 ?_
    obtain ⟨h6, hTt, hTf⟩ := hT
    refine g_icmp_ne (npc := 29) (tgt := 33) dX4_sumConnected_26 rfl (by decide) h6 (fun c7 => ?_) (fun c7 => ?_)
    · replace hT := hTt c7
      refine g_lconst (npc := 34) (x := 0) dX4_sumConnected_33 rfl (by decide) ?_
      obtain ⟨h8, hT⟩ := hT
      replace hT := hT _ rfl
      refine g_last (npc := 35) dX4_sumConnected_34 rfl hk2 h8  ?_
      refine g_iinc (npc := 38) (y := (x3 + 1)) (l' := [(0, .ref 55), (1, iV x1), (2, .ref k2), (3, iV (x3 + 1))]) dX4_sumConnected_35 rfl (by decide) rfl (by omega) rfl ?_
      refine g_goto (npc := 11) dX4_sumConnected_38 (by decide) ?_
      exact hT
    · replace hT := hTf (Decidable.not_not.mp c7)
      refine g_lconst (npc := 30) (x := 1) dX4_sumConnected_29 rfl (by decide) ?_
      refine g_goto (npc := 34) dX4_sumConnected_30 (by decide) ?_
      obtain ⟨h10, hT⟩ := hT
      replace hT := hT _ rfl
      refine g_last (npc := 35) dX4_sumConnected_34 rfl hk2 h10  ?_
      refine g_iinc (npc := 38) (y := (x3 + 1)) (l' := [(0, .ref 55), (1, iV x1), (2, .ref k2), (3, iV (x3 + 1))]) dX4_sumConnected_35 rfl (by decide) rfl (by omega) rfl ?_
      refine g_goto (npc := 11) dX4_sumConnected_38 (by decide) ?_
      exact hT
set_option maxRecDepth 20000 in
theorem b_Le_sumConnected_43 {n : Nat} {Q : Sto → Prop} {x1 : Int} {k2 : Nat} {x3 : Int} (hk2 : ar (SL n) k2 2 21) {s : Sto} (hT : ((-2147483648 ≤ x3 ∧ x3 < 2147483648) ∧ -2147483648 ≤ x1 ∧ x1 < 2147483648) ∧ ((x1 ≤ x3) → Q s) ∧ ((x3 < x1) → (-2147483648 ≤ (iand x3 (ixor x1 (-1))) ∧ (iand x3 (ixor x1 (-1))) < 2147483648) ∧ ((¬ (iand x3 (ixor x1 (-1))) = 0) → H_Le_sumConnected_43 n Q x1 k2 (x3 + 2) s) ∧ (((iand x3 (ixor x1 (-1))) = 0) → (-2147483648 ≤ x3 ∧ x3 < 2147483648) ∧ (0 ≤ (Int.tdiv x3 2) ∧ (Int.tdiv x3 2) < 128) ∧ (0 ≤ (iand x1 (ixor x3 (-1))) ∧ (iand x1 (ixor x3 (-1))) < 256) ∧ ∃ Q19 : Sto → Prop, K_Le_subtractShifted n k2 (58 + Int.toNat (Int.tdiv x3 2)) (s 56 (Int.toNat (iand x1 (ixor x3 (-1))))) s Q19 ∧ ∀ s21, Q19 s21 → H_Le_sumConnected_43 n Q x1 k2 (x3 + 2) s21))) : H_Le_sumConnected_43 n Q x1 k2 x3 s := by
  refine g_iload_n (npc := 44) dX4_sumConnected_43 rfl rfl rfl ?_
  refine g_iload_n (npc := 45) dX4_sumConnected_44 rfl rfl rfl ?_
  obtain ⟨h12, hTt, hTf⟩ := hT
  refine g_icmp_ge (npc := 48) (tgt := 84) dX4_sumConnected_45 rfl (by decide) h12 (fun c13 => ?_) (fun c13 => ?_)
  · replace hT := hTt c13
    exact g_ret dX4_sumConnected_84 rfl (by decide) ⟨rfl, hT⟩
  · replace hT := hTf (Int.not_le.mp c13)
    refine g_iload_n (npc := 49) dX4_sumConnected_48 rfl rfl rfl ?_
    refine g_iload_n (npc := 50) dX4_sumConnected_49 rfl rfl rfl ?_
    refine g_iconst (npc := 51) dX4_sumConnected_50 rfl ?_
    refine g_ixor (npc := 52) dX4_sumConnected_51 rfl ?_
    refine g_iand (npc := 53) dX4_sumConnected_52 rfl ?_
    obtain ⟨h14, hTt, hTf⟩ := hT
    refine g_if_ne (npc := 56) (tgt := 78) dX4_sumConnected_53 rfl (by decide) h14 (fun c15 => ?_) (fun c15 => ?_)
    · replace hT := hTt c15
      refine g_iinc (npc := 81) (y := (x3 + 2)) (l' := [(0, .ref 55), (1, iV x1), (2, .ref k2), (3, iV (x3 + 2))]) dX4_sumConnected_78 rfl (by decide) rfl (by omega) rfl ?_
      refine g_goto (npc := 43) dX4_sumConnected_81 (by decide) ?_
      exact hT
    · replace hT := hTf (Decidable.not_not.mp c15)
      refine g_aload_n (npc := 57) dX4_sumConnected_56 rfl rfl rfl ?_
      refine g_aload_n (npc := 58) dX4_sumConnected_57 rfl rfl rfl ?_
      refine gf_Le_17 (npc := 61) dX4_sumConnected_58 rfl rfl ?_
      refine g_iload_n (npc := 62) dX4_sumConnected_61 rfl rfl rfl ?_
      refine g_iconst (npc := 63) dX4_sumConnected_62 rfl ?_
      obtain ⟨h16, hT⟩ := hT
      refine g_idiv (npc := 64) dX4_sumConnected_63 rfl ⟨h16, by decide, by decide⟩ (by decide) ?_
      obtain ⟨h17, hT⟩ := hT
      refine g_aald6 (npc := 65) dX4_sumConnected_64 rfl (arSL arSC_57) h17 (frSC_57 h17) ?_
      refine g_aload_n (npc := 66) dX4_sumConnected_65 rfl rfl rfl ?_
      refine gf_Le_11 (npc := 69) dX4_sumConnected_66 rfl rfl ?_
      refine g_iload_n (npc := 70) dX4_sumConnected_69 rfl rfl rfl ?_
      refine g_iload_n (npc := 71) dX4_sumConnected_70 rfl rfl rfl ?_
      refine g_iconst (npc := 72) dX4_sumConnected_71 rfl ?_
      refine g_ixor (npc := 73) dX4_sumConnected_72 rfl ?_
      refine g_iand (npc := 74) dX4_sumConnected_73 rfl ?_
      obtain ⟨h18, hT⟩ := hT
      refine g_iald (npc := 75) dX4_sumConnected_74 rfl (arSL arSC_56) h18 ?_
      obtain ⟨Q19, h20, hT⟩ := hT
      refine iv_Le_53 (npc := 78) dX4_sumConnected_75 rfl rfl (Nat.le_of_ble_eq_true rfl) (by decide) (by decide) h20 (fun s21 e23 => ?_)
      replace hT := hT s21 e23
      refine g_iinc (npc := 81) (y := (x3 + 2)) (l' := [(0, .ref 55), (1, iV x1), (2, .ref k2), (3, iV (x3 + 2))]) dX4_sumConnected_78 rfl (by decide) rfl (by omega) rfl ?_
      refine g_goto (npc := 43) dX4_sumConnected_81 (by decide) ?_
      exact hT
set_option maxRecDepth 20000 in
theorem e_Le_sumConnected {n : Nat} {x1 : Int} {s : Sto} {Q : Sto → Prop} (hT : (-2147483648 ≤ x1 ∧ x1 < 2147483648) ∧ (0 ≤ (Int.tdiv x1 2) ∧ (Int.tdiv x1 2) < 128) ∧ H_Le_sumConnected_11 n Q x1 (58 + Int.toNat (Int.tdiv x1 2)) 0 s) : K_Le_sumConnected n x1 s Q := by
  refine Sp.body (by decide +kernel) (Nat.le_of_ble_eq_true rfl) ?_
  show Go (SL n) M_Le_sumConnected (fV0 Q) 0 0 0 [(0, .ref 55), (1, iV x1)] [] s
  refine g_aload_n (npc := 1) dX4_sumConnected_0 rfl rfl rfl ?_
  refine gf_Le_17 (npc := 4) dX4_sumConnected_1 rfl rfl ?_
  refine g_iload_n (npc := 5) dX4_sumConnected_4 rfl rfl rfl ?_
  refine g_iconst (npc := 6) dX4_sumConnected_5 rfl ?_
  obtain ⟨h1, hT⟩ := hT
  refine g_idiv (npc := 7) dX4_sumConnected_6 rfl ⟨h1, by decide, by decide⟩ (by decide) ?_
  obtain ⟨h2, hT⟩ := hT
  refine g_aald6 (npc := 8) dX4_sumConnected_7 rfl (arSL arSC_57) h2 (frSC_57 h2) ?_
  refine g_astore_n (npc := 9) (l' := [(0, .ref 55), (1, iV x1), (2, .ref (58 + Int.toNat (Int.tdiv x1 2)))]) dX4_sumConnected_8 rfl rfl (by decide) rfl ?_
  refine g_iconst (npc := 10) dX4_sumConnected_9 rfl ?_
  refine g_istore_n (npc := 11) (l' := [(0, .ref 55), (1, iV x1), (2, .ref (58 + Int.toNat (Int.tdiv x1 2))), (3, iV 0)]) dX4_sumConnected_10 rfl rfl (by decide) rfl ?_
  exact hT
abbrev H_Le_divideByYMinusOne_5 (n : Nat) (Q : Sto → Prop) (x1 : Int) (x3 : Int) (s : Sto) : Prop := Go (SL n) M_Le_divideByYMinusOne (fV0 Q) 0 0 5 [(0, .ref 55), (1, jV x1), (3, iV x3)] [] s
set_option maxRecDepth 20000 in
theorem b_Le_divideByYMinusOne_5 {n : Nat} {Q : Sto → Prop} {x1 : Int} {x3 : Int} {s : Sto} (hT : (-2147483648 ≤ x3 ∧ x3 < 2147483648) ∧ ((x3 < 0) → Q s) ∧ ((0 ≤ x3) → (0 ≤ x3 ∧ x3 < 21) ∧ (0 ≤ x3 ∧ x3 < 21) ∧ ∀ s5, s5 = up s 186 (Int.toNat x3) x1 → H_Le_divideByYMinusOne_5 n Q (x1 + (s 186 (Int.toNat x3))) (x3 - 1) s5)) : H_Le_divideByYMinusOne_5 n Q x1 x3 s := by
  refine g_iload_n (npc := 6) dX4_divideByYMinusOne_5 rfl rfl rfl ?_
  obtain ⟨h1, hTt, hTf⟩ := hT
  refine g_if_lt (npc := 9) (tgt := 35) dX4_divideByYMinusOne_6 rfl (by decide) h1 (fun c2 => ?_) (fun c2 => ?_)
  · replace hT := hTt c2
    exact g_ret dX4_divideByYMinusOne_35 rfl (by decide) ⟨rfl, hT⟩
  · replace hT := hTf (Int.not_lt.mp c2)
    refine g_aload_n (npc := 10) dX4_divideByYMinusOne_9 rfl rfl rfl ?_
    refine gf_Le_20 (npc := 13) dX4_divideByYMinusOne_10 rfl rfl ?_
    refine g_iload_n (npc := 14) dX4_divideByYMinusOne_13 rfl rfl rfl ?_
    obtain ⟨h3, hT⟩ := hT
    refine g_lald (npc := 15) dX4_divideByYMinusOne_14 rfl (arSL arSC_186) h3 ?_
    refine g_lstore (npc := 17) (l' := [(0, .ref 55), (1, jV x1), (3, iV x3), (4, jV (s 186 (Int.toNat x3)))]) dX4_divideByYMinusOne_15 rfl (by decide) rfl ?_
    refine g_aload_n (npc := 18) dX4_divideByYMinusOne_17 rfl rfl rfl ?_
    refine gf_Le_20 (npc := 21) dX4_divideByYMinusOne_18 rfl rfl ?_
    refine g_iload_n (npc := 22) dX4_divideByYMinusOne_21 rfl rfl rfl ?_
    refine g_lload_n (npc := 23) dX4_divideByYMinusOne_22 rfl rfl rfl ?_
    obtain ⟨h4, hT⟩ := hT
    replace hT := hT _ rfl
    refine g_last (npc := 24) dX4_divideByYMinusOne_23 rfl (arSL arSC_186) h4  ?_
    refine g_lload_n (npc := 25) dX4_divideByYMinusOne_24 rfl rfl rfl ?_
    refine g_lload (npc := 27) dX4_divideByYMinusOne_25 rfl rfl ?_
    refine g_ladd (npc := 28) dX4_divideByYMinusOne_27 rfl ?_
    refine g_lstore_n (npc := 29) (l' := [(0, .ref 55), (1, jV (x1 + (s 186 (Int.toNat x3)))), (3, iV x3), (4, jV (s 186 (Int.toNat x3)))]) dX4_divideByYMinusOne_28 rfl rfl (by decide) rfl ?_
    refine g_iinc (npc := 32) (y := (x3 - 1)) (l' := [(0, .ref 55), (1, jV (x1 + (s 186 (Int.toNat x3)))), (3, iV (x3 - 1)), (4, jV (s 186 (Int.toNat x3)))]) dX4_divideByYMinusOne_29 rfl (by decide) rfl (by omega) rfl ?_
    refine g_goto (npc := 5) dX4_divideByYMinusOne_32 (by decide) ?_
    refine Go.lsub [0, 1, 2] rfl ?_
    exact hT
set_option maxRecDepth 20000 in
theorem e_Le_divideByYMinusOne {n : Nat} {s : Sto} {Q : Sto → Prop} (hT : H_Le_divideByYMinusOne_5 n Q 0 20 s) : K_Le_divideByYMinusOne n s Q := by
  refine Sp.body (by decide +kernel) (Nat.le_of_ble_eq_true rfl) ?_
  show Go (SL n) M_Le_divideByYMinusOne (fV0 Q) 0 0 0 [(0, .ref 55)] [] s
  refine g_lconst (npc := 1) (x := 0) dX4_divideByYMinusOne_0 rfl (by decide) ?_
  refine g_lstore_n (npc := 2) (l' := [(0, .ref 55), (1, jV 0)]) dX4_divideByYMinusOne_1 rfl rfl (by decide) rfl ?_
  refine g_bipush (npc := 4) (x := 20) dX4_divideByYMinusOne_2 rfl (by decide) ?_
  refine g_istore_n (npc := 5) (l' := [(0, .ref 55), (1, jV 0), (3, iV 20)]) dX4_divideByYMinusOne_4 rfl rfl (by decide) rfl ?_
  exact hT
abbrev H_Le_countAt_28 (n : Nat) (Q : Int → Sto → Prop) (x1 : Int) (x2 : Int) (x3 : Int) (s : Sto) : Prop := Go (SL n) M_Le_countAt (fJ Q) 0 0 28 [(0, .ref 55), (1, iV x1), (2, iV x2), (3, iV x3)] [] s
abbrev H_Le_countAt_60 (n : Nat) (Q : Int → Sto → Prop) (x1 : Int) (x3 : Int) (x4 : Int) (s : Sto) : Prop := Go (SL n) M_Le_countAt (fJ Q) 0 0 60 [(0, .ref 55), (1, iV x1), (3, iV x3), (4, iV x4)] [] s
abbrev H_Le_countAt_92 (n : Nat) (Q : Int → Sto → Prop) (x1 : Int) (x4 : Int) (s : Sto) : Prop := Go (SL n) M_Le_countAt (fJ Q) 0 0 92 [(0, .ref 55), (1, iV x1), (4, iV x4)] [] s
set_option maxRecDepth 20000 in
theorem b_Le_countAt_28 {n : Nat} {Q : Int → Sto → Prop} {x1 : Int} {x2 : Int} {x3 : Int} {s : Sto} (hT : ((-2147483648 ≤ x3 ∧ x3 < 2147483648) ∧ -2147483648 ≤ x2 ∧ x2 < 2147483648) ∧ ((x2 ≤ x3) → (-2147483648 ≤ (x2 - 1) ∧ (x2 - 1) < 2147483648) ∧ H_Le_countAt_60 n Q x1 (Int.tdiv (x2 - 1) 2) 0 s) ∧ ((x3 < x2) → (-2147483648 ≤ x3 ∧ x3 < 2147483648) ∧ ((256 ≤ x3) → (-2147483648 ≤ (x2 - 1) ∧ (x2 - 1) < 2147483648) ∧ H_Le_countAt_60 n Q x1 (Int.tdiv (x2 - 1) 2) 0 s) ∧ ((x3 < 256) → ∃ Q16 : Sto → Prop, K_Le_sumConnected n x3 s Q16 ∧ ∀ s18, Q16 s18 → H_Le_countAt_28 n Q x1 x2 (x3 + 2) s18))) : H_Le_countAt_28 n Q x1 x2 x3 s := by
  refine g_iload_n (npc := 29) dX4_countAt_28 rfl rfl rfl ?_
  refine g_iload_n (npc := 30) dX4_countAt_29 rfl rfl rfl ?_
  obtain ⟨h10, hTt, hTf⟩ := hT
  refine g_icmp_ge (npc := 33) (tgt := 51) dX4_countAt_30 rfl (by decide) h10 (fun c11 => ?_) (fun c11 => ?_)
  · replace hT := hTt c11
    refine g_iload_n (npc := 52) dX4_countAt_51 rfl rfl rfl ?_
    refine g_iconst (npc := 53) dX4_countAt_52 rfl ?_
    refine g_isub (npc := 54) dX4_countAt_53 rfl ?_
    refine g_iconst (npc := 55) dX4_countAt_54 rfl ?_
    obtain ⟨h12, hT⟩ := hT
    refine g_idiv (npc := 56) dX4_countAt_55 rfl ⟨h12, by decide, by decide⟩ (by decide) ?_
    refine g_istore_n (npc := 57) (l' := [(0, .ref 55), (1, iV x1), (2, iV x2), (3, iV (Int.tdiv (x2 - 1) 2))]) dX4_countAt_56 rfl rfl (by decide) rfl ?_
    refine g_iconst (npc := 58) dX4_countAt_57 rfl ?_
    refine g_istore (npc := 60) (l' := [(0, .ref 55), (1, iV x1), (2, iV x2), (3, iV (Int.tdiv (x2 - 1) 2)), (4, iV 0)]) dX4_countAt_58 rfl (by decide) rfl ?_
    refine Go.lsub [0, 1, 3, 4] rfl ?_
    exact hT
  · replace hT := hTf (Int.not_le.mp c11)
    refine g_iload_n (npc := 34) dX4_countAt_33 rfl rfl rfl ?_
    refine g_sipush (npc := 37) (x := 256) dX4_countAt_34 rfl (by decide) ?_
    obtain ⟨h13, hTt, hTf⟩ := hT
    refine g_icmp_ge (npc := 40) (tgt := 51) dX4_countAt_37 rfl (by decide) ⟨h13, by decide, by decide⟩ (fun c14 => ?_) (fun c14 => ?_)
    · replace hT := hTt c14
      refine g_iload_n (npc := 52) dX4_countAt_51 rfl rfl rfl ?_
      refine g_iconst (npc := 53) dX4_countAt_52 rfl ?_
      refine g_isub (npc := 54) dX4_countAt_53 rfl ?_
      refine g_iconst (npc := 55) dX4_countAt_54 rfl ?_
      obtain ⟨h15, hT⟩ := hT
      refine g_idiv (npc := 56) dX4_countAt_55 rfl ⟨h15, by decide, by decide⟩ (by decide) ?_
      refine g_istore_n (npc := 57) (l' := [(0, .ref 55), (1, iV x1), (2, iV x2), (3, iV (Int.tdiv (x2 - 1) 2))]) dX4_countAt_56 rfl rfl (by decide) rfl ?_
      refine g_iconst (npc := 58) dX4_countAt_57 rfl ?_
      refine g_istore (npc := 60) (l' := [(0, .ref 55), (1, iV x1), (2, iV x2), (3, iV (Int.tdiv (x2 - 1) 2)), (4, iV 0)]) dX4_countAt_58 rfl (by decide) rfl ?_
      refine Go.lsub [0, 1, 3, 4] rfl ?_
      exact hT
    · replace hT := hTf (Int.not_le.mp c14)
      refine g_aload_n (npc := 41) dX4_countAt_40 rfl rfl rfl ?_
      refine g_iload_n (npc := 42) dX4_countAt_41 rfl rfl rfl ?_
      obtain ⟨Q16, h17, hT⟩ := hT
      refine iv_Le_37 (npc := 45) dX4_countAt_42 rfl rfl (Nat.le_of_ble_eq_true rfl) (by decide) (by decide) h17 (fun s18 e20 => ?_)
      replace hT := hT s18 e20
      refine g_iinc (npc := 48) (y := (x3 + 2)) (l' := [(0, .ref 55), (1, iV x1), (2, iV x2), (3, iV (x3 + 2))]) dX4_countAt_45 rfl (by decide) rfl (by omega) rfl ?_
      refine g_goto (npc := 28) dX4_countAt_48 (by decide) ?_
      exact hT
set_option maxRecDepth 20000 in
theorem b_Le_countAt_60 {n : Nat} {Q : Int → Sto → Prop} {x1 : Int} {x3 : Int} {x4 : Int} {s : Sto} (hT : (-2147483648 ≤ x4 ∧ x4 < 2147483648) ∧ ((21 ≤ x4) → H_Le_countAt_92 n Q x1 1 s) ∧ ((x4 < 21) → (0 ≤ x3 ∧ x3 < 128) ∧ (0 ≤ x4 ∧ x4 < 21) ∧ (0 ≤ x4 ∧ x4 < 21) ∧ ∀ s26, s26 = up s 186 (Int.toNat x4) (s (58 + Int.toNat x3) (Int.toNat x4)) → H_Le_countAt_60 n Q x1 x3 (x4 + 1) s26)) : H_Le_countAt_60 n Q x1 x3 x4 s := by
  refine g_iload (npc := 62) dX4_countAt_60 rfl rfl ?_
  refine g_bipush (npc := 64) (x := 21) dX4_countAt_62 rfl (by decide) ?_
  obtain ⟨h21, hTt, hTf⟩ := hT
  refine g_icmp_ge (npc := 67) (tgt := 89) dX4_countAt_64 rfl (by decide) ⟨h21, by decide, by decide⟩ (fun c22 => ?_) (fun c22 => ?_)
  · replace hT := hTt c22
    refine g_iconst (npc := 90) dX4_countAt_89 rfl ?_
    refine g_istore (npc := 92) (l' := [(0, .ref 55), (1, iV x1), (3, iV x3), (4, iV 1)]) dX4_countAt_90 rfl (by decide) rfl ?_
    refine Go.lsub [0, 1, 3] rfl ?_
    exact hT
  · replace hT := hTf (Int.not_le.mp c22)
    refine g_aload_n (npc := 68) dX4_countAt_67 rfl rfl rfl ?_
    refine gf_Le_20 (npc := 71) dX4_countAt_68 rfl rfl ?_
    refine g_iload (npc := 73) dX4_countAt_71 rfl rfl ?_
    refine g_aload_n (npc := 74) dX4_countAt_73 rfl rfl rfl ?_
    refine gf_Le_17 (npc := 77) dX4_countAt_74 rfl rfl ?_
    refine g_iload_n (npc := 78) dX4_countAt_77 rfl rfl rfl ?_
    obtain ⟨h23, hT⟩ := hT
    refine g_aald6 (npc := 79) dX4_countAt_78 rfl (arSL arSC_57) h23 (frSC_57 h23) ?_
    refine g_iload (npc := 81) dX4_countAt_79 rfl rfl ?_
    obtain ⟨h24, hT⟩ := hT
    refine g_lald (npc := 82) dX4_countAt_81 rfl (arSL (rwSC_57 h23)) h24 ?_
    obtain ⟨h25, hT⟩ := hT
    replace hT := hT _ rfl
    refine g_last (npc := 83) dX4_countAt_82 rfl (arSL arSC_186) h25  ?_
    refine g_iinc (npc := 86) (y := (x4 + 1)) (l' := [(0, .ref 55), (1, iV x1), (3, iV x3), (4, iV (x4 + 1))]) dX4_countAt_83 rfl (by decide) rfl (by omega) rfl ?_
    refine g_goto (npc := 60) dX4_countAt_86 (by decide) ?_
    exact hT
set_option maxRecDepth 20000 in
theorem b_Le_countAt_92 {n : Nat} {Q : Int → Sto → Prop} {x1 : Int} {x4 : Int} {s : Sto} (hT : ((-2147483648 ≤ x4 ∧ x4 < 2147483648) ∧ -2147483648 ≤ (s 1 0) ∧ (s 1 0) < 2147483648) ∧ (((s 1 0) ≤ x4) → (0 ≤ x1 ∧ x1 < 21) ∧ Q (s 186 (Int.toNat x1)) s) ∧ ((x4 < (s 1 0)) → ∃ Q30 : Sto → Prop, K_Le_divideByYMinusOne n s Q30 ∧ ∀ s32, Q30 s32 → H_Le_countAt_92 n Q x1 (x4 + 1) s32)) : H_Le_countAt_92 n Q x1 x4 s := by
  refine g_iload (npc := 94) dX4_countAt_92 rfl rfl ?_
  refine g_aload_n (npc := 95) dX4_countAt_94 rfl rfl rfl ?_
  refine gf_Le_24 (npc := 98) dX4_countAt_95 rfl rfl ?_
  refine gf_Le_31 (npc := 101) dX4_countAt_98 rfl rfl ?_
  obtain ⟨h27, hTt, hTf⟩ := hT
  refine g_icmp_ge (npc := 104) (tgt := 114) dX4_countAt_101 rfl (by decide) h27 (fun c28 => ?_) (fun c28 => ?_)
  · replace hT := hTt c28
    refine g_aload_n (npc := 115) dX4_countAt_114 rfl rfl rfl ?_
    refine gf_Le_20 (npc := 118) dX4_countAt_115 rfl rfl ?_
    refine g_iload_n (npc := 119) dX4_countAt_118 rfl rfl rfl ?_
    obtain ⟨h29, hT⟩ := hT
    refine g_lald (npc := 120) dX4_countAt_119 rfl (arSL arSC_186) h29 ?_
    exact g_lret dX4_countAt_120 rfl (by decide) ⟨_, rfl, hT⟩
  · replace hT := hTf (Int.not_le.mp c28)
    refine g_aload_n (npc := 105) dX4_countAt_104 rfl rfl rfl ?_
    obtain ⟨Q30, h31, hT⟩ := hT
    refine iv_Le_41 (npc := 108) dX4_countAt_105 rfl rfl (Nat.le_of_ble_eq_true rfl) (by decide) (by decide) h31 (fun s32 e34 => ?_)
    replace hT := hT s32 e34
    refine g_iinc (npc := 111) (y := (x4 + 1)) (l' := [(0, .ref 55), (1, iV x1), (4, iV (x4 + 1))]) dX4_countAt_108 rfl (by decide) rfl (by omega) rfl ?_
    refine g_goto (npc := 92) dX4_countAt_111 (by decide) ?_
    exact hT
set_option maxRecDepth 20000 in
theorem e_Le_countAt {n : Nat} {x1 : Int} {s : Sto} {Q : Int → Sto → Prop} (hT : (-2147483648 ≤ x1 ∧ x1 < 2147483648) ∧ ((x1 < 0) → Q 0 s) ∧ ((0 ≤ x1) → (-2147483648 ≤ x1 ∧ x1 < 2147483648) ∧ ((x1 < 21) → ∃ Q5 : Sto → Prop, K_Le_countEdgesInside n s Q5 ∧ ∀ s7, Q5 s7 → H_Le_countAt_28 n Q x1 (ishl 1 (s7 1 0)) 1 s7) ∧ ((21 ≤ x1) → Q 0 s))) : K_Le_countAt n x1 s Q := by
  refine Sp.body (by decide +kernel) (Nat.le_of_ble_eq_true rfl) ?_
  show Go (SL n) M_Le_countAt (fJ Q) 0 0 0 [(0, .ref 55), (1, iV x1)] [] s
  refine g_iload_n (npc := 1) dX4_countAt_0 rfl rfl rfl ?_
  obtain ⟨h1, hTt, hTf⟩ := hT
  refine g_if_lt (npc := 4) (tgt := 10) dX4_countAt_1 rfl (by decide) h1 (fun c2 => ?_) (fun c2 => ?_)
  · replace hT := hTt c2
    refine g_lconst (npc := 11) (x := 0) dX4_countAt_10 rfl (by decide) ?_
    exact g_lret dX4_countAt_11 rfl (by decide) ⟨_, rfl, hT⟩
  · replace hT := hTf (Int.not_lt.mp c2)
    refine g_iload_n (npc := 5) dX4_countAt_4 rfl rfl rfl ?_
    refine g_bipush (npc := 7) (x := 21) dX4_countAt_5 rfl (by decide) ?_
    obtain ⟨h3, hTt, hTf⟩ := hT
    refine g_icmp_lt (npc := 10) (tgt := 12) dX4_countAt_7 rfl (by decide) ⟨h3, by decide, by decide⟩ (fun c4 => ?_) (fun c4 => ?_)
    · replace hT := hTt c4
      refine g_aload_n (npc := 13) dX4_countAt_12 rfl rfl rfl ?_
      obtain ⟨Q5, h6, hT⟩ := hT
      refine iv_Le_28 (npc := 16) dX4_countAt_13 rfl rfl (Nat.le_of_ble_eq_true rfl) (by decide) (by decide) h6 (fun s7 e9 => ?_)
      replace hT := hT s7 e9
      refine g_iconst (npc := 17) dX4_countAt_16 rfl ?_
      refine g_aload_n (npc := 18) dX4_countAt_17 rfl rfl rfl ?_
      refine gf_Le_24 (npc := 21) dX4_countAt_18 rfl rfl ?_
      refine gf_Le_31 (npc := 24) dX4_countAt_21 rfl rfl ?_
      refine g_ishl (npc := 25) dX4_countAt_24 rfl ?_
      refine g_istore_n (npc := 26) (l' := [(0, .ref 55), (1, iV x1), (2, iV (ishl 1 (s7 1 0)))]) dX4_countAt_25 rfl rfl (by decide) rfl ?_
      refine g_iconst (npc := 27) dX4_countAt_26 rfl ?_
      refine g_istore_n (npc := 28) (l' := [(0, .ref 55), (1, iV x1), (2, iV (ishl 1 (s7 1 0))), (3, iV 1)]) dX4_countAt_27 rfl rfl (by decide) rfl ?_
      exact hT
    · replace hT := hTf (Int.not_lt.mp c4)
      refine g_lconst (npc := 11) (x := 0) dX4_countAt_10 rfl (by decide) ?_
      exact g_lret dX4_countAt_11 rfl (by decide) ⟨_, rfl, hT⟩
