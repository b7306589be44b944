/-! blocks of ChipGame$Trees -/
theorem dX9_count_0 : decode cX9_count 0 = .ok (.aload_n 0, 1) := by decide +kernel
theorem dX9_count_1 : decode cX9_count 1 = .ok (.getfield 15, 3) := by decide +kernel
theorem dX9_count_4 : decode cX9_count 4 = .ok (.iload_n 1, 1) := by decide +kernel
theorem dX9_count_5 : decode cX9_count 5 = .ok (.invokevirtual 23, 3) := by decide +kernel
theorem dX9_count_8 : decode cX9_count 8 = .ok (.pop, 1) := by decide +kernel
theorem dX9_count_9 : decode cX9_count 9 = .ok (.aload_n 0, 1) := by decide +kernel
theorem dX9_count_10 : decode cX9_count 10 = .ok (.getfield 19, 3) := by decide +kernel
theorem dX9_count_13 : decode cX9_count 13 = .ok (.iload_n 2, 1) := by decide +kernel
theorem dX9_count_14 : decode cX9_count 14 = .ok (.invokevirtual 29, 3) := by decide +kernel
theorem dX9_count_17 : decode cX9_count 17 = .ok (.aload_n 0, 1) := by decide +kernel
theorem dX9_count_18 : decode cX9_count 18 = .ok (.getfield 19, 3) := by decide +kernel
theorem dX9_count_21 : decode cX9_count 21 = .ok (.invokevirtual 35, 3) := by decide +kernel
theorem dX9_count_24 : decode cX9_count 24 = .ok (.lreturn, 1) := by decide +kernel
theorem dX9_treeNumbered_0 : decode cX9_treeNumbered 0 = .ok (.iload_n 1, 1) := by decide +kernel
theorem dX9_treeNumbered_1 : decode cX9_treeNumbered 1 = .ok (.i2l, 1) := by decide +kernel
theorem dX9_treeNumbered_2 : decode cX9_treeNumbered 2 = .ok (.lstore_n 2, 1) := by decide +kernel
theorem dX9_treeNumbered_3 : decode cX9_treeNumbered 3 = .ok (.iconst 0, 1) := by decide +kernel
theorem dX9_treeNumbered_4 : decode cX9_treeNumbered 4 = .ok (.istore 4, 2) := by decide +kernel
theorem dX9_treeNumbered_6 : decode cX9_treeNumbered 6 = .ok (.iconst 0, 1) := by decide +kernel
theorem dX9_treeNumbered_7 : decode cX9_treeNumbered 7 = .ok (.istore 5, 2) := by decide +kernel
theorem dX9_treeNumbered_9 : decode cX9_treeNumbered 9 = .ok (.aload_n 0, 1) := by decide +kernel
theorem dX9_treeNumbered_10 : decode cX9_treeNumbered 10 = .ok (.getfield 15, 3) := by decide +kernel
theorem dX9_treeNumbered_13 : decode cX9_treeNumbered 13 = .ok (.getfield 39, 3) := by decide +kernel
theorem dX9_treeNumbered_16 : decode cX9_treeNumbered 16 = .ok (.iconst 1, 1) := by decide +kernel
theorem dX9_treeNumbered_17 : decode cX9_treeNumbered 17 = .ok (.isub, 1) := by decide +kernel
theorem dX9_treeNumbered_18 : decode cX9_treeNumbered 18 = .ok (.istore 6, 2) := by decide +kernel
theorem dX9_treeNumbered_20 : decode cX9_treeNumbered 20 = .ok (.iload 6, 2) := by decide +kernel
theorem dX9_treeNumbered_22 : decode cX9_treeNumbered 22 = .ok (.ifCond .lt 57, 3) := by decide +kernel
theorem dX9_treeNumbered_25 : decode cX9_treeNumbered 25 = .ok (.iconst 1, 1) := by decide +kernel
theorem dX9_treeNumbered_26 : decode cX9_treeNumbered 26 = .ok (.iload 6, 2) := by decide +kernel
theorem dX9_treeNumbered_28 : decode cX9_treeNumbered 28 = .ok (.ishl, 1) := by decide +kernel
theorem dX9_treeNumbered_29 : decode cX9_treeNumbered 29 = .ok (.istore 7, 2) := by decide +kernel
theorem dX9_treeNumbered_31 : decode cX9_treeNumbered 31 = .ok (.aload_n 0, 1) := by decide +kernel
theorem dX9_treeNumbered_32 : decode cX9_treeNumbered 32 = .ok (.iload 4, 2) := by decide +kernel
theorem dX9_treeNumbered_34 : decode cX9_treeNumbered 34 = .ok (.iload 5, 2) := by decide +kernel
theorem dX9_treeNumbered_36 : decode cX9_treeNumbered 36 = .ok (.iload 7, 2) := by decide +kernel
theorem dX9_treeNumbered_38 : decode cX9_treeNumbered 38 = .ok (.ior, 1) := by decide +kernel
theorem dX9_treeNumbered_39 : decode cX9_treeNumbered 39 = .ok (.invokevirtual 43, 3) := by decide +kernel
theorem dX9_treeNumbered_42 : decode cX9_treeNumbered 42 = .ok (.lstore 8, 2) := by decide +kernel
theorem dX9_treeNumbered_44 : decode cX9_treeNumbered 44 = .ok (.lload_n 2, 1) := by decide +kernel
theorem dX9_treeNumbered_45 : decode cX9_treeNumbered 45 = .ok (.lload 8, 2) := by decide +kernel
theorem dX9_treeNumbered_47 : decode cX9_treeNumbered 47 = .ok (.lcmp, 1) := by decide +kernel
theorem dX9_treeNumbered_48 : decode cX9_treeNumbered 48 = .ok (.ifCond .ge 13, 3) := by decide +kernel
theorem dX9_treeNumbered_51 : decode cX9_treeNumbered 51 = .ok (.iload 5, 2) := by decide +kernel
theorem dX9_treeNumbered_53 : decode cX9_treeNumbered 53 = .ok (.iload 7, 2) := by decide +kernel
theorem dX9_treeNumbered_55 : decode cX9_treeNumbered 55 = .ok (.ior, 1) := by decide +kernel
theorem dX9_treeNumbered_56 : decode cX9_treeNumbered 56 = .ok (.istore 5, 2) := by decide +kernel
theorem dX9_treeNumbered_58 : decode cX9_treeNumbered 58 = .ok (.goto 15, 3) := by decide +kernel
theorem dX9_treeNumbered_61 : decode cX9_treeNumbered 61 = .ok (.lload_n 2, 1) := by decide +kernel
theorem dX9_treeNumbered_62 : decode cX9_treeNumbered 62 = .ok (.lload 8, 2) := by decide +kernel
theorem dX9_treeNumbered_64 : decode cX9_treeNumbered 64 = .ok (.lsub, 1) := by decide +kernel
theorem dX9_treeNumbered_65 : decode cX9_treeNumbered 65 = .ok (.lstore_n 2, 1) := by decide +kernel
theorem dX9_treeNumbered_66 : decode cX9_treeNumbered 66 = .ok (.iload 4, 2) := by decide +kernel
theorem dX9_treeNumbered_68 : decode cX9_treeNumbered 68 = .ok (.iload 7, 2) := by decide +kernel
theorem dX9_treeNumbered_70 : decode cX9_treeNumbered 70 = .ok (.ior, 1) := by decide +kernel
theorem dX9_treeNumbered_71 : decode cX9_treeNumbered 71 = .ok (.istore 4, 2) := by decide +kernel
theorem dX9_treeNumbered_73 : decode cX9_treeNumbered 73 = .ok (.iinc 6 (-1), 3) := by decide +kernel
theorem dX9_treeNumbered_76 : decode cX9_treeNumbered 76 = .ok (.goto (-56), 3) := by decide +kernel
theorem dX9_treeNumbered_79 : decode cX9_treeNumbered 79 = .ok (.iload 4, 2) := by decide +kernel
theorem dX9_treeNumbered_81 : decode cX9_treeNumbered 81 = .ok (.ireturn, 1) := by decide +kernel
theorem dX9_treeOf_0 : decode cX9_treeOf 0 = .ok (.aload_n 0, 1) := by decide +kernel
theorem dX9_treeOf_1 : decode cX9_treeOf 1 = .ok (.getfield 9, 3) := by decide +kernel
theorem dX9_treeOf_4 : decode cX9_treeOf 4 = .ok (.invokestatic 47, 3) := by decide +kernel
theorem dX9_treeOf_7 : decode cX9_treeOf 7 = .ok (.iconst 0, 1) := by decide +kernel
theorem dX9_treeOf_8 : decode cX9_treeOf 8 = .ok (.istore_n 2, 1) := by decide +kernel
theorem dX9_treeOf_9 : decode cX9_treeOf 9 = .ok (.iconst 0, 1) := by decide +kernel
theorem dX9_treeOf_10 : decode cX9_treeOf 10 = .ok (.istore_n 3, 1) := by decide +kernel
theorem dX9_treeOf_11 : decode cX9_treeOf 11 = .ok (.iconst 1, 1) := by decide +kernel
theorem dX9_treeOf_12 : decode cX9_treeOf 12 = .ok (.aload_n 0, 1) := by decide +kernel
theorem dX9_treeOf_13 : decode cX9_treeOf 13 = .ok (.getfield 15, 3) := by decide +kernel
theorem dX9_treeOf_16 : decode cX9_treeOf 16 = .ok (.getfield 51, 3) := by decide +kernel
theorem dX9_treeOf_19 : decode cX9_treeOf 19 = .ok (.ishl, 1) := by decide +kernel
theorem dX9_treeOf_20 : decode cX9_treeOf 20 = .ok (.istore 4, 2) := by decide +kernel
theorem dX9_treeOf_22 : decode cX9_treeOf 22 = .ok (.iconst 0, 1) := by decide +kernel
theorem dX9_treeOf_23 : decode cX9_treeOf 23 = .ok (.istore 5, 2) := by decide +kernel
theorem dX9_treeOf_25 : decode cX9_treeOf 25 = .ok (.iload 5, 2) := by decide +kernel
theorem dX9_treeOf_27 : decode cX9_treeOf 27 = .ok (.aload_n 0, 1) := by decide +kernel
theorem dX9_treeOf_28 : decode cX9_treeOf 28 = .ok (.getfield 15, 3) := by decide +kernel
theorem dX9_treeOf_31 : decode cX9_treeOf 31 = .ok (.getfield 39, 3) := by decide +kernel
theorem dX9_treeOf_34 : decode cX9_treeOf 34 = .ok (.if_icmp .ge 103, 3) := by decide +kernel
theorem dX9_treeOf_37 : decode cX9_treeOf 37 = .ok (.aload_n 0, 1) := by decide +kernel
theorem dX9_treeOf_38 : decode cX9_treeOf 38 = .ok (.iload 4, 2) := by decide +kernel
theorem dX9_treeOf_40 : decode cX9_treeOf 40 = .ok (.iload_n 3, 1) := by decide +kernel
theorem dX9_treeOf_41 : decode cX9_treeOf 41 = .ok (.invokevirtual 54, 3) := by decide +kernel
theorem dX9_treeOf_44 : decode cX9_treeOf 44 = .ok (.istore 6, 2) := by decide +kernel
theorem dX9_treeOf_46 : decode cX9_treeOf 46 = .ok (.aload_n 0, 1) := by decide +kernel
theorem dX9_treeOf_47 : decode cX9_treeOf 47 = .ok (.getfield 15, 3) := by decide +kernel
theorem dX9_treeOf_50 : decode cX9_treeOf 50 = .ok (.iload 6, 2) := by decide +kernel
theorem dX9_treeOf_52 : decode cX9_treeOf 52 = .ok (.invokevirtual 58, 3) := by decide +kernel
theorem dX9_treeOf_55 : decode cX9_treeOf 55 = .ok (.ifCond .ne 6, 3) := by decide +kernel
theorem dX9_treeOf_58 : decode cX9_treeOf 58 = .ok (.goto 79, 3) := by decide +kernel
theorem dX9_treeOf_61 : decode cX9_treeOf 61 = .ok (.iload_n 3, 1) := by decide +kernel
theorem dX9_treeOf_62 : decode cX9_treeOf 62 = .ok (.iconst 1, 1) := by decide +kernel
theorem dX9_treeOf_63 : decode cX9_treeOf 63 = .ok (.iload 6, 2) := by decide +kernel
theorem dX9_treeOf_65 : decode cX9_treeOf 65 = .ok (.ishl, 1) := by decide +kernel
theorem dX9_treeOf_66 : decode cX9_treeOf 66 = .ok (.ior, 1) := by decide +kernel
theorem dX9_treeOf_67 : decode cX9_treeOf 67 = .ok (.istore_n 3, 1) := by decide +kernel
theorem dX9_treeOf_68 : decode cX9_treeOf 68 = .ok (.aload_n 0, 1) := by decide +kernel
theorem dX9_treeOf_69 : decode cX9_treeOf 69 = .ok (.iload 6, 2) := by decide +kernel
theorem dX9_treeOf_71 : decode cX9_treeOf 71 = .ok (.iload 4, 2) := by decide +kernel
theorem dX9_treeOf_73 : decode cX9_treeOf 73 = .ok (.invokevirtual 62, 3) := by decide +kernel
theorem dX9_treeOf_76 : decode cX9_treeOf 76 = .ok (.istore 7, 2) := by decide +kernel
theorem dX9_treeOf_78 : decode cX9_treeOf 78 = .ok (.aload_n 0, 1) := by decide +kernel
theorem dX9_treeOf_79 : decode cX9_treeOf 79 = .ok (.getfield 9, 3) := by decide +kernel
theorem dX9_treeOf_82 : decode cX9_treeOf 82 = .ok (.iload 7, 2) := by decide +kernel
theorem dX9_treeOf_84 : decode cX9_treeOf 84 = .ok (.dup2, 1) := by decide +kernel
theorem dX9_treeOf_85 : decode cX9_treeOf 85 = .ok (.iaload, 1) := by decide +kernel
theorem dX9_treeOf_86 : decode cX9_treeOf 86 = .ok (.iconst 1, 1) := by decide +kernel
theorem dX9_treeOf_87 : decode cX9_treeOf 87 = .ok (.iadd, 1) := by decide +kernel
theorem dX9_treeOf_88 : decode cX9_treeOf 88 = .ok (.iastore, 1) := by decide +kernel
theorem dX9_treeOf_89 : decode cX9_treeOf 89 = .ok (.aload_n 0, 1) := by decide +kernel
theorem dX9_treeOf_90 : decode cX9_treeOf 90 = .ok (.getfield 9, 3) := by decide +kernel
theorem dX9_treeOf_93 : decode cX9_treeOf 93 = .ok (.iload 7, 2) := by decide +kernel
theorem dX9_treeOf_95 : decode cX9_treeOf 95 = .ok (.iaload, 1) := by decide +kernel
theorem dX9_treeOf_96 : decode cX9_treeOf 96 = .ok (.aload_n 0, 1) := by decide +kernel
theorem dX9_treeOf_97 : decode cX9_treeOf 97 = .ok (.getfield 15, 3) := by decide +kernel
theorem dX9_treeOf_100 : decode cX9_treeOf 100 = .ok (.iload 7, 2) := by decide +kernel
theorem dX9_treeOf_102 : decode cX9_treeOf 102 = .ok (.invokevirtual 65, 3) := by decide +kernel
theorem dX9_treeOf_105 : decode cX9_treeOf 105 = .ok (.iconst 1, 1) := by decide +kernel
theorem dX9_treeOf_106 : decode cX9_treeOf 106 = .ok (.isub, 1) := by decide +kernel
theorem dX9_treeOf_107 : decode cX9_treeOf 107 = .ok (.aload_n 1, 1) := by decide +kernel
theorem dX9_treeOf_108 : decode cX9_treeOf 108 = .ok (.iload 7, 2) := by decide +kernel
theorem dX9_treeOf_110 : decode cX9_treeOf 110 = .ok (.iaload, 1) := by decide +kernel
theorem dX9_treeOf_111 : decode cX9_treeOf 111 = .ok (.isub, 1) := by decide +kernel
theorem dX9_treeOf_112 : decode cX9_treeOf 112 = .ok (.if_icmp .le 19, 3) := by decide +kernel
theorem dX9_treeOf_115 : decode cX9_treeOf 115 = .ok (.iload 4, 2) := by decide +kernel
theorem dX9_treeOf_117 : decode cX9_treeOf 117 = .ok (.iconst 1, 1) := by decide +kernel
theorem dX9_treeOf_118 : decode cX9_treeOf 118 = .ok (.iload 7, 2) := by decide +kernel
theorem dX9_treeOf_120 : decode cX9_treeOf 120 = .ok (.ishl, 1) := by decide +kernel
theorem dX9_treeOf_121 : decode cX9_treeOf 121 = .ok (.ior, 1) := by decide +kernel
theorem dX9_treeOf_122 : decode cX9_treeOf 122 = .ok (.istore 4, 2) := by decide +kernel
theorem dX9_treeOf_124 : decode cX9_treeOf 124 = .ok (.iload_n 2, 1) := by decide +kernel
theorem dX9_treeOf_125 : decode cX9_treeOf 125 = .ok (.iconst 1, 1) := by decide +kernel
theorem dX9_treeOf_126 : decode cX9_treeOf 126 = .ok (.iload 6, 2) := by decide +kernel
theorem dX9_treeOf_128 : decode cX9_treeOf 128 = .ok (.ishl, 1) := by decide +kernel
theorem dX9_treeOf_129 : decode cX9_treeOf 129 = .ok (.ior, 1) := by decide +kernel
theorem dX9_treeOf_130 : decode cX9_treeOf 130 = .ok (.istore_n 2, 1) := by decide +kernel
theorem dX9_treeOf_131 : decode cX9_treeOf 131 = .ok (.iinc 5 1, 3) := by decide +kernel
theorem dX9_treeOf_134 : decode cX9_treeOf 134 = .ok (.goto (-109), 3) := by decide +kernel
theorem dX9_treeOf_137 : decode cX9_treeOf 137 = .ok (.iload_n 2, 1) := by decide +kernel
theorem dX9_treeOf_138 : decode cX9_treeOf 138 = .ok (.ireturn, 1) := by decide +kernel
theorem dX9_toStateOf_0 : decode cX9_toStateOf 0 = .ok (.aload_n 0, 1) := by decide +kernel
theorem dX9_toStateOf_1 : decode cX9_toStateOf 1 = .ok (.getfield 9, 3) := by decide +kernel
theorem dX9_toStateOf_4 : decode cX9_toStateOf 4 = .ok (.invokestatic 47, 3) := by decide +kernel
theorem dX9_toStateOf_7 : decode cX9_toStateOf 7 = .ok (.iconst 0, 1) := by decide +kernel
theorem dX9_toStateOf_8 : decode cX9_toStateOf 8 = .ok (.istore_n 3, 1) := by decide +kernel
theorem dX9_toStateOf_9 : decode cX9_toStateOf 9 = .ok (.iconst 1, 1) := by decide +kernel
theorem dX9_toStateOf_10 : decode cX9_toStateOf 10 = .ok (.aload_n 0, 1) := by decide +kernel
theorem dX9_toStateOf_11 : decode cX9_toStateOf 11 = .ok (.getfield 15, 3) := by decide +kernel
theorem dX9_toStateOf_14 : decode cX9_toStateOf 14 = .ok (.getfield 51, 3) := by decide +kernel
theorem dX9_toStateOf_17 : decode cX9_toStateOf 17 = .ok (.ishl, 1) := by decide +kernel
theorem dX9_toStateOf_18 : decode cX9_toStateOf 18 = .ok (.istore 4, 2) := by decide +kernel
theorem dX9_toStateOf_20 : decode cX9_toStateOf 20 = .ok (.iconst 0, 1) := by decide +kernel
theorem dX9_toStateOf_21 : decode cX9_toStateOf 21 = .ok (.istore 5, 2) := by decide +kernel
theorem dX9_toStateOf_23 : decode cX9_toStateOf 23 = .ok (.iload 5, 2) := by decide +kernel
theorem dX9_toStateOf_25 : decode cX9_toStateOf 25 = .ok (.aload_n 0, 1) := by decide +kernel
theorem dX9_toStateOf_26 : decode cX9_toStateOf 26 = .ok (.getfield 15, 3) := by decide +kernel
theorem dX9_toStateOf_29 : decode cX9_toStateOf 29 = .ok (.getfield 39, 3) := by decide +kernel
theorem dX9_toStateOf_32 : decode cX9_toStateOf 32 = .ok (.if_icmp .ge 100, 3) := by decide +kernel
theorem dX9_toStateOf_35 : decode cX9_toStateOf 35 = .ok (.aload_n 0, 1) := by decide +kernel
theorem dX9_toStateOf_36 : decode cX9_toStateOf 36 = .ok (.iload 4, 2) := by decide +kernel
theorem dX9_toStateOf_38 : decode cX9_toStateOf 38 = .ok (.iload_n 3, 1) := by decide +kernel
theorem dX9_toStateOf_39 : decode cX9_toStateOf 39 = .ok (.invokevirtual 54, 3) := by decide +kernel
theorem dX9_toStateOf_42 : decode cX9_toStateOf 42 = .ok (.istore 6, 2) := by decide +kernel
theorem dX9_toStateOf_44 : decode cX9_toStateOf 44 = .ok (.aload_n 0, 1) := by decide +kernel
theorem dX9_toStateOf_45 : decode cX9_toStateOf 45 = .ok (.getfield 15, 3) := by decide +kernel
theorem dX9_toStateOf_48 : decode cX9_toStateOf 48 = .ok (.iload 6, 2) := by decide +kernel
theorem dX9_toStateOf_50 : decode cX9_toStateOf 50 = .ok (.invokevirtual 58, 3) := by decide +kernel
theorem dX9_toStateOf_53 : decode cX9_toStateOf 53 = .ok (.ifCond .ne 6, 3) := by decide +kernel
theorem dX9_toStateOf_56 : decode cX9_toStateOf 56 = .ok (.goto 76, 3) := by decide +kernel
theorem dX9_toStateOf_59 : decode cX9_toStateOf 59 = .ok (.iload_n 3, 1) := by decide +kernel
theorem dX9_toStateOf_60 : decode cX9_toStateOf 60 = .ok (.iconst 1, 1) := by decide +kernel
theorem dX9_toStateOf_61 : decode cX9_toStateOf 61 = .ok (.iload 6, 2) := by decide +kernel
theorem dX9_toStateOf_63 : decode cX9_toStateOf 63 = .ok (.ishl, 1) := by decide +kernel
theorem dX9_toStateOf_64 : decode cX9_toStateOf 64 = .ok (.ior, 1) := by decide +kernel
theorem dX9_toStateOf_65 : decode cX9_toStateOf 65 = .ok (.istore_n 3, 1) := by decide +kernel
theorem dX9_toStateOf_66 : decode cX9_toStateOf 66 = .ok (.aload_n 0, 1) := by decide +kernel
theorem dX9_toStateOf_67 : decode cX9_toStateOf 67 = .ok (.iload 6, 2) := by decide +kernel
theorem dX9_toStateOf_69 : decode cX9_toStateOf 69 = .ok (.iload 4, 2) := by decide +kernel
theorem dX9_toStateOf_71 : decode cX9_toStateOf 71 = .ok (.invokevirtual 62, 3) := by decide +kernel
theorem dX9_toStateOf_74 : decode cX9_toStateOf 74 = .ok (.istore 7, 2) := by decide +kernel
theorem dX9_toStateOf_76 : decode cX9_toStateOf 76 = .ok (.aload_n 0, 1) := by decide +kernel
theorem dX9_toStateOf_77 : decode cX9_toStateOf 77 = .ok (.getfield 9, 3) := by decide +kernel
theorem dX9_toStateOf_80 : decode cX9_toStateOf 80 = .ok (.iload 7, 2) := by decide +kernel
theorem dX9_toStateOf_82 : decode cX9_toStateOf 82 = .ok (.dup2, 1) := by decide +kernel
theorem dX9_toStateOf_83 : decode cX9_toStateOf 83 = .ok (.iaload, 1) := by decide +kernel
theorem dX9_toStateOf_84 : decode cX9_toStateOf 84 = .ok (.iconst 1, 1) := by decide +kernel
theorem dX9_toStateOf_85 : decode cX9_toStateOf 85 = .ok (.iadd, 1) := by decide +kernel
theorem dX9_toStateOf_86 : decode cX9_toStateOf 86 = .ok (.iastore, 1) := by decide +kernel
theorem dX9_toStateOf_87 : decode cX9_toStateOf 87 = .ok (.iload_n 1, 1) := by decide +kernel
theorem dX9_toStateOf_88 : decode cX9_toStateOf 88 = .ok (.iload 6, 2) := by decide +kernel
theorem dX9_toStateOf_90 : decode cX9_toStateOf 90 = .ok (.ishr, 1) := by decide +kernel
theorem dX9_toStateOf_91 : decode cX9_toStateOf 91 = .ok (.iconst 1, 1) := by decide +kernel
theorem dX9_toStateOf_92 : decode cX9_toStateOf 92 = .ok (.iand, 1) := by decide +kernel
theorem dX9_toStateOf_93 : decode cX9_toStateOf 93 = .ok (.ifCond .eq 33, 3) := by decide +kernel
theorem dX9_toStateOf_96 : decode cX9_toStateOf 96 = .ok (.iload 4, 2) := by decide +kernel
theorem dX9_toStateOf_98 : decode cX9_toStateOf 98 = .ok (.iconst 1, 1) := by decide +kernel
theorem dX9_toStateOf_99 : decode cX9_toStateOf 99 = .ok (.iload 7, 2) := by decide +kernel
theorem dX9_toStateOf_101 : decode cX9_toStateOf 101 = .ok (.ishl, 1) := by decide +kernel
theorem dX9_toStateOf_102 : decode cX9_toStateOf 102 = .ok (.ior, 1) := by decide +kernel
theorem dX9_toStateOf_103 : decode cX9_toStateOf 103 = .ok (.istore 4, 2) := by decide +kernel
theorem dX9_toStateOf_105 : decode cX9_toStateOf 105 = .ok (.aload_n 2, 1) := by decide +kernel
theorem dX9_toStateOf_106 : decode cX9_toStateOf 106 = .ok (.iload 7, 2) := by decide +kernel
theorem dX9_toStateOf_108 : decode cX9_toStateOf 108 = .ok (.aload_n 0, 1) := by decide +kernel
theorem dX9_toStateOf_109 : decode cX9_toStateOf 109 = .ok (.getfield 15, 3) := by decide +kernel
theorem dX9_toStateOf_112 : decode cX9_toStateOf 112 = .ok (.iload 7, 2) := by decide +kernel
theorem dX9_toStateOf_114 : decode cX9_toStateOf 114 = .ok (.invokevirtual 65, 3) := by decide +kernel
theorem dX9_toStateOf_117 : decode cX9_toStateOf 117 = .ok (.aload_n 0, 1) := by decide +kernel
theorem dX9_toStateOf_118 : decode cX9_toStateOf 118 = .ok (.getfield 9, 3) := by decide +kernel
theorem dX9_toStateOf_121 : decode cX9_toStateOf 121 = .ok (.iload 7, 2) := by decide +kernel
theorem dX9_toStateOf_123 : decode cX9_toStateOf 123 = .ok (.iaload, 1) := by decide +kernel
theorem dX9_toStateOf_124 : decode cX9_toStateOf 124 = .ok (.isub, 1) := by decide +kernel
theorem dX9_toStateOf_125 : decode cX9_toStateOf 125 = .ok (.iastore, 1) := by decide +kernel
theorem dX9_toStateOf_126 : decode cX9_toStateOf 126 = .ok (.iinc 5 1, 3) := by decide +kernel
theorem dX9_toStateOf_129 : decode cX9_toStateOf 129 = .ok (.goto (-106), 3) := by decide +kernel
theorem dX9_toStateOf_132 : decode cX9_toStateOf 132 = .ok (.return_, 1) := by decide +kernel
theorem dX9_lowestBorderEdge_0 : decode cX9_lowestBorderEdge 0 = .ok (.iconst 0, 1) := by decide +kernel
theorem dX9_lowestBorderEdge_1 : decode cX9_lowestBorderEdge 1 = .ok (.istore_n 3, 1) := by decide +kernel
theorem dX9_lowestBorderEdge_2 : decode cX9_lowestBorderEdge 2 = .ok (.iload_n 3, 1) := by decide +kernel
theorem dX9_lowestBorderEdge_3 : decode cX9_lowestBorderEdge 3 = .ok (.aload_n 0, 1) := by decide +kernel
theorem dX9_lowestBorderEdge_4 : decode cX9_lowestBorderEdge 4 = .ok (.getfield 15, 3) := by decide +kernel
theorem dX9_lowestBorderEdge_7 : decode cX9_lowestBorderEdge 7 = .ok (.getfield 39, 3) := by decide +kernel
theorem dX9_lowestBorderEdge_10 : decode cX9_lowestBorderEdge 10 = .ok (.if_icmp .ge 60, 3) := by decide +kernel
theorem dX9_lowestBorderEdge_13 : decode cX9_lowestBorderEdge 13 = .ok (.iload_n 1, 1) := by decide +kernel
theorem dX9_lowestBorderEdge_14 : decode cX9_lowestBorderEdge 14 = .ok (.aload_n 0, 1) := by decide +kernel
theorem dX9_lowestBorderEdge_15 : decode cX9_lowestBorderEdge 15 = .ok (.getfield 15, 3) := by decide +kernel
theorem dX9_lowestBorderEdge_18 : decode cX9_lowestBorderEdge 18 = .ok (.getfield 68, 3) := by decide +kernel
theorem dX9_lowestBorderEdge_21 : decode cX9_lowestBorderEdge 21 = .ok (.iload_n 3, 1) := by decide +kernel
theorem dX9_lowestBorderEdge_22 : decode cX9_lowestBorderEdge 22 = .ok (.iaload, 1) := by decide +kernel
theorem dX9_lowestBorderEdge_23 : decode cX9_lowestBorderEdge 23 = .ok (.invokestatic 71, 3) := by decide +kernel
theorem dX9_lowestBorderEdge_26 : decode cX9_lowestBorderEdge 26 = .ok (.iload_n 1, 1) := by decide +kernel
theorem dX9_lowestBorderEdge_27 : decode cX9_lowestBorderEdge 27 = .ok (.aload_n 0, 1) := by decide +kernel
theorem dX9_lowestBorderEdge_28 : decode cX9_lowestBorderEdge 28 = .ok (.getfield 15, 3) := by decide +kernel
theorem dX9_lowestBorderEdge_31 : decode cX9_lowestBorderEdge 31 = .ok (.getfield 75, 3) := by decide +kernel
theorem dX9_lowestBorderEdge_34 : decode cX9_lowestBorderEdge 34 = .ok (.iload_n 3, 1) := by decide +kernel
theorem dX9_lowestBorderEdge_35 : decode cX9_lowestBorderEdge 35 = .ok (.iaload, 1) := by decide +kernel
theorem dX9_lowestBorderEdge_36 : decode cX9_lowestBorderEdge 36 = .ok (.invokestatic 71, 3) := by decide +kernel
theorem dX9_lowestBorderEdge_39 : decode cX9_lowestBorderEdge 39 = .ok (.if_icmp .eq 7, 3) := by decide +kernel
theorem dX9_lowestBorderEdge_42 : decode cX9_lowestBorderEdge 42 = .ok (.iconst 1, 1) := by decide +kernel
theorem dX9_lowestBorderEdge_43 : decode cX9_lowestBorderEdge 43 = .ok (.goto 4, 3) := by decide +kernel
theorem dX9_lowestBorderEdge_46 : decode cX9_lowestBorderEdge 46 = .ok (.iconst 0, 1) := by decide +kernel
theorem dX9_lowestBorderEdge_47 : decode cX9_lowestBorderEdge 47 = .ok (.istore 4, 2) := by decide +kernel
theorem dX9_lowestBorderEdge_49 : decode cX9_lowestBorderEdge 49 = .ok (.iload 4, 2) := by decide +kernel
theorem dX9_lowestBorderEdge_51 : decode cX9_lowestBorderEdge 51 = .ok (.ifCond .eq 13, 3) := by decide +kernel
theorem dX9_lowestBorderEdge_54 : decode cX9_lowestBorderEdge 54 = .ok (.iload_n 2, 1) := by decide +kernel
theorem dX9_lowestBorderEdge_55 : decode cX9_lowestBorderEdge 55 = .ok (.iload_n 3, 1) := by decide +kernel
theorem dX9_lowestBorderEdge_56 : decode cX9_lowestBorderEdge 56 = .ok (.invokestatic 71, 3) := by decide +kernel
theorem dX9_lowestBorderEdge_59 : decode cX9_lowestBorderEdge 59 = .ok (.ifCond .ne 5, 3) := by decide +kernel
theorem dX9_lowestBorderEdge_62 : decode cX9_lowestBorderEdge 62 = .ok (.iload_n 3, 1) := by decide +kernel
theorem dX9_lowestBorderEdge_63 : decode cX9_lowestBorderEdge 63 = .ok (.ireturn, 1) := by decide +kernel
theorem dX9_lowestBorderEdge_64 : decode cX9_lowestBorderEdge 64 = .ok (.iinc 3 1, 3) := by decide +kernel
theorem dX9_lowestBorderEdge_67 : decode cX9_lowestBorderEdge 67 = .ok (.goto (-65), 3) := by decide +kernel
theorem dX9_lowestBorderEdge_70 : decode cX9_lowestBorderEdge 70 = .ok (.iconst (-1), 1) := by decide +kernel
theorem dX9_lowestBorderEdge_71 : decode cX9_lowestBorderEdge 71 = .ok (.ireturn, 1) := by decide +kernel
theorem dX9_unmarkedEnd_0 : decode cX9_unmarkedEnd 0 = .ok (.iload_n 2, 1) := by decide +kernel
theorem dX9_unmarkedEnd_1 : decode cX9_unmarkedEnd 1 = .ok (.aload_n 0, 1) := by decide +kernel
theorem dX9_unmarkedEnd_2 : decode cX9_unmarkedEnd 2 = .ok (.getfield 15, 3) := by decide +kernel
theorem dX9_unmarkedEnd_5 : decode cX9_unmarkedEnd 5 = .ok (.getfield 68, 3) := by decide +kernel
theorem dX9_unmarkedEnd_8 : decode cX9_unmarkedEnd 8 = .ok (.iload_n 1, 1) := by decide +kernel
theorem dX9_unmarkedEnd_9 : decode cX9_unmarkedEnd 9 = .ok (.iaload, 1) := by decide +kernel
theorem dX9_unmarkedEnd_10 : decode cX9_unmarkedEnd 10 = .ok (.invokestatic 71, 3) := by decide +kernel
theorem dX9_unmarkedEnd_13 : decode cX9_unmarkedEnd 13 = .ok (.ifCond .eq 15, 3) := by decide +kernel
theorem dX9_unmarkedEnd_16 : decode cX9_unmarkedEnd 16 = .ok (.aload_n 0, 1) := by decide +kernel
theorem dX9_unmarkedEnd_17 : decode cX9_unmarkedEnd 17 = .ok (.getfield 15, 3) := by decide +kernel
theorem dX9_unmarkedEnd_20 : decode cX9_unmarkedEnd 20 = .ok (.getfield 75, 3) := by decide +kernel
theorem dX9_unmarkedEnd_23 : decode cX9_unmarkedEnd 23 = .ok (.iload_n 1, 1) := by decide +kernel
theorem dX9_unmarkedEnd_24 : decode cX9_unmarkedEnd 24 = .ok (.iaload, 1) := by decide +kernel
theorem dX9_unmarkedEnd_25 : decode cX9_unmarkedEnd 25 = .ok (.goto 12, 3) := by decide +kernel
theorem dX9_unmarkedEnd_28 : decode cX9_unmarkedEnd 28 = .ok (.aload_n 0, 1) := by decide +kernel
theorem dX9_unmarkedEnd_29 : decode cX9_unmarkedEnd 29 = .ok (.getfield 15, 3) := by decide +kernel
theorem dX9_unmarkedEnd_32 : decode cX9_unmarkedEnd 32 = .ok (.getfield 68, 3) := by decide +kernel
theorem dX9_unmarkedEnd_35 : decode cX9_unmarkedEnd 35 = .ok (.iload_n 1, 1) := by decide +kernel
theorem dX9_unmarkedEnd_36 : decode cX9_unmarkedEnd 36 = .ok (.iaload, 1) := by decide +kernel
theorem dX9_unmarkedEnd_37 : decode cX9_unmarkedEnd 37 = .ok (.ireturn, 1) := by decide +kernel
theorem dX9_isIn_0 : decode cX9_isIn 0 = .ok (.iload_n 0, 1) := by decide +kernel
theorem dX9_isIn_1 : decode cX9_isIn 1 = .ok (.iload_n 1, 1) := by decide +kernel
theorem dX9_isIn_2 : decode cX9_isIn 2 = .ok (.ishr, 1) := by decide +kernel
theorem dX9_isIn_3 : decode cX9_isIn 3 = .ok (.iconst 1, 1) := by decide +kernel
theorem dX9_isIn_4 : decode cX9_isIn 4 = .ok (.iand, 1) := by decide +kernel
theorem dX9_isIn_5 : decode cX9_isIn 5 = .ok (.ifCond .eq 7, 3) := by decide +kernel
theorem dX9_isIn_8 : decode cX9_isIn 8 = .ok (.iconst 1, 1) := by decide +kernel
theorem dX9_isIn_9 : decode cX9_isIn 9 = .ok (.goto 4, 3) := by decide +kernel
theorem dX9_isIn_12 : decode cX9_isIn 12 = .ok (.iconst 0, 1) := by decide +kernel
theorem dX9_isIn_13 : decode cX9_isIn 13 = .ok (.ireturn, 1) := by decide +kernel
set_option maxRecDepth 20000 in
theorem e_Tr_count {n : Nat} {x1 : Int} {x2 : Int} {s : Sto} {Q : Int → Sto → Prop} (hT : ∃ Q1 : Int → Sto → Prop, K_Gr_findParts n x1 s Q1 ∧ ∀ r4 s3, Q1 r4 s3 → ∃ Q6 : Sto → Prop, K_Ma_fill n x2 s3 Q6 ∧ ∀ s8, Q6 s8 → ∃ Q11 : Int → Sto → Prop, K_Ma_eliminate n s8 Q11 ∧ ∀ r14 s13, Q11 r14 s13 → Q r14 s13) : K_Tr_count n x1 x2 s Q := by
  refine Sp.body (by decide +kernel) (Nat.le_of_ble_eq_true rfl) ?_
  show Go (SL n) M_Tr_count (fJ Q) 0 0 0 [(0, .ref 53), (1, iV x1), (2, iV x2)] [] s
  refine g_aload_n (npc := 1) dX9_count_0 rfl rfl rfl ?_
  refine gf_Tr_15 (npc := 4) dX9_count_1 rfl rfl ?_
  refine g_iload_n (npc := 5) dX9_count_4 rfl rfl rfl ?_
  obtain ⟨Q1, h2, hT⟩ := hT
  refine iv_Tr_23 (npc := 8) dX9_count_5 rfl rfl (Nat.le_of_ble_eq_true rfl) (by decide) (by decide) h2 (fun r4 s3 e5 => ?_)
  replace hT := hT r4 s3 e5
  refine g_pop (npc := 9) dX9_count_8 rfl rfl ?_
  refine g_aload_n (npc := 10) dX9_count_9 rfl rfl rfl ?_
  refine gf_Tr_19 (npc := 13) dX9_count_10 rfl rfl ?_
  refine g_iload_n (npc := 14) dX9_count_13 rfl rfl rfl ?_
  obtain ⟨Q6, h7, hT⟩ := hT
  refine iv_Tr_29 (npc := 17) dX9_count_14 rfl rfl (Nat.le_of_ble_eq_true rfl) (by decide) (by decide) h7 (fun s8 e10 => ?_)
  replace hT := hT s8 e10
  refine g_aload_n (npc := 18) dX9_count_17 rfl rfl rfl ?_
  refine gf_Tr_19 (npc := 21) dX9_count_18 rfl rfl ?_
  obtain ⟨Q11, h12, hT⟩ := hT
  refine iv_Tr_35 (npc := 24) dX9_count_21 rfl rfl (Nat.le_of_ble_eq_true rfl) (by decide) (by decide) h12 (fun r14 s13 e15 => ?_)
  replace hT := hT r14 s13 e15
  exact g_lret dX9_count_24 rfl (by decide) ⟨_, rfl, hT⟩
set_option maxRecDepth 20000 in
theorem e_Tr_isIn {n : Nat} {x0 : Int} {x1 : Int} {s : Sto} {Q : Int → Sto → Prop} (hT : (-2147483648 ≤ (iand (ishr x0 x1) 1) ∧ (iand (ishr x0 x1) 1) < 2147483648) ∧ (((iand (ishr x0 x1) 1) = 0) → Q 0 s) ∧ ((¬ (iand (ishr x0 x1) 1) = 0) → Q 1 s)) : K_Tr_isIn n x0 x1 s Q := by
  refine Sp.body (by decide +kernel) (Nat.le_of_ble_eq_true rfl) ?_
  show Go (SL n) M_Tr_isIn (fI Q) 0 0 0 [(0, iV x0), (1, iV x1)] [] s
  refine g_iload_n (npc := 1) dX9_isIn_0 rfl rfl rfl ?_
  refine g_iload_n (npc := 2) dX9_isIn_1 rfl rfl rfl ?_
  refine g_ishr (npc := 3) dX9_isIn_2 rfl ?_
  refine g_iconst (npc := 4) dX9_isIn_3 rfl ?_
  refine g_iand (npc := 5) dX9_isIn_4 rfl ?_
  obtain ⟨h1, hTt, hTf⟩ := hT
  refine g_if_eq (npc := 8) (tgt := 12) dX9_isIn_5 rfl (by decide) h1 (fun c2 => ?_) (fun c2 => ?_)
  · replace hT := hTt c2
    refine g_iconst (npc := 13) dX9_isIn_12 rfl ?_
    exact g_iret dX9_isIn_13 rfl (by decide) (by decide) ⟨_, rfl, hT⟩
  · replace hT := hTf c2
    refine g_iconst (npc := 9) dX9_isIn_8 rfl ?_
    refine g_goto (npc := 13) dX9_isIn_9 (by decide) ?_
    exact g_iret dX9_isIn_13 rfl (by decide) (by decide) ⟨_, rfl, hT⟩
abbrev H_Tr_lowestBorderEdge_2 (n : Nat) (Q : Int → Sto → Prop) (x1 : Int) (x2 : Int) (x3 : Int) (s : Sto) : Prop := Go (SL n) M_Tr_lowestBorderEdge (fI Q) 0 0 2 [(0, .ref 53), (1, iV x1), (2, iV x2), (3, iV x3)] [] s
set_option maxRecDepth 20000 in
theorem b_Tr_lowestBorderEdge_2 {n : Nat} {Q : Int → Sto → Prop} {x1 : Int} {x2 : Int} {x3 : Int} {s : Sto} (hT : ((-2147483648 ≤ x3 ∧ x3 < 2147483648) ∧ -2147483648 ≤ (s 1 1) ∧ (s 1 1) < 2147483648) ∧ (((s 1 1) ≤ x3) → Q (-1) s) ∧ ((x3 < (s 1 1)) → (0 ≤ x3 ∧ x3 < 20) ∧ ∃ Q4 : Int → Sto → Prop, K_Tr_isIn n x1 (s 2 (Int.toNat x3)) s Q4 ∧ ∀ r7 s6, Q4 r7 s6 → (0 ≤ x3 ∧ x3 < 20) ∧ ∃ Q10 : Int → Sto → Prop, K_Tr_isIn n x1 (s6 3 (Int.toNat x3)) s6 Q10 ∧ ∀ r13 s12, Q10 r13 s12 → ∃ J16 : Int → Prop, (∀ v15, J16 v15 → (-2147483648 ≤ v15 ∧ v15 < 2147483648) ∧ ((v15 = 0) → H_Tr_lowestBorderEdge_2 n Q x1 x2 (x3 + 1) s12) ∧ ((¬ v15 = 0) → ∃ Q21 : Int → Sto → Prop, K_Tr_isIn n x2 x3 s12 Q21 ∧ ∀ r24 s23, Q21 r24 s23 → (-2147483648 ≤ r24 ∧ r24 < 2147483648) ∧ ((¬ r24 = 0) → H_Tr_lowestBorderEdge_2 n Q x1 x2 (x3 + 1) s23) ∧ ((r24 = 0) → Q x3 s23))) ∧ ((-2147483648 ≤ r7 ∧ r7 < 2147483648) ∧ -2147483648 ≤ r13 ∧ r13 < 2147483648) ∧ ((r7 = r13) → J16 0) ∧ ((¬ r7 = r13) → J16 1))) : H_Tr_lowestBorderEdge_2 n Q x1 x2 x3 s := by
  refine g_iload_n (npc := 3) dX9_lowestBorderEdge_2 rfl rfl rfl ?_
  refine g_aload_n (npc := 4) dX9_lowestBorderEdge_3 rfl rfl rfl ?_
  refine gf_Tr_15 (npc := 7) dX9_lowestBorderEdge_4 rfl rfl ?_
  refine gf_Tr_39 (npc := 10) dX9_lowestBorderEdge_7 rfl rfl ?_
  obtain ⟨h1, hTt, hTf⟩ := hT
  refine g_icmp_ge (npc := 13) (tgt := 70) dX9_lowestBorderEdge_10 rfl (by decide) h1 (fun c2 => ?_) (fun c2 => ?_)
  · replace hT := hTt c2
    refine g_iconst (npc := 71) dX9_lowestBorderEdge_70 rfl ?_
    exact g_iret dX9_lowestBorderEdge_71 rfl rfl (by decide) ⟨_, rfl, hT⟩
  · replace hT := hTf (Int.not_le.mp c2)
    refine g_iload_n (npc := 14) dX9_lowestBorderEdge_13 rfl rfl rfl ?_
    refine g_aload_n (npc := 15) dX9_lowestBorderEdge_14 rfl rfl rfl ?_
    refine gf_Tr_15 (npc := 18) dX9_lowestBorderEdge_15 rfl rfl ?_
    refine gf_Tr_68 (npc := 21) dX9_lowestBorderEdge_18 rfl rfl ?_
    refine g_iload_n (npc := 22) dX9_lowestBorderEdge_21 rfl rfl rfl ?_
    obtain ⟨h3, hT⟩ := hT
    refine g_iald (npc := 23) dX9_lowestBorderEdge_22 rfl (arSL arSC_2) h3 ?_
    obtain ⟨Q4, h5, hT⟩ := hT
    refine iv_Tr_71 (npc := 26) dX9_lowestBorderEdge_23 rfl rfl (Nat.le_of_ble_eq_true rfl) (by decide) (by decide) h5 (fun r7 s6 e8 => ?_)
    replace hT := hT r7 s6 e8
    refine g_iload_n (npc := 27) dX9_lowestBorderEdge_26 rfl rfl rfl ?_
    refine g_aload_n (npc := 28) dX9_lowestBorderEdge_27 rfl rfl rfl ?_
    refine gf_Tr_15 (npc := 31) dX9_lowestBorderEdge_28 rfl rfl ?_
    refine gf_Tr_75 (npc := 34) dX9_lowestBorderEdge_31 rfl rfl ?_
    refine g_iload_n (npc := 35) dX9_lowestBorderEdge_34 rfl rfl rfl ?_
    obtain ⟨h9, hT⟩ := hT
    refine g_iald (npc := 36) dX9_lowestBorderEdge_35 rfl (arSL arSC_3) h9 ?_
    obtain ⟨Q10, h11, hT⟩ := hT
    refine iv_Tr_71 (npc := 39) dX9_lowestBorderEdge_36 rfl rfl (Nat.le_of_ble_eq_true rfl) (by decide) (by decide) h11 (fun r13 s12 e14 => ?_)
    replace hT := hT r13 s12 e14
    obtain ⟨J16, hT⟩ := hT
    obtain ⟨hj28, hT⟩ := hT
    have K29 : ∀ (v15 : Int), J16 v15 → Go (SL n) M_Tr_lowestBorderEdge (fI Q) 0 0 47 [(0, .ref 53), (1, iV x1), (2, iV x2), (3, iV x3)] [iV v15] s12 := by
      intro v15 q30
      replace hT := hj28 v15 q30
      refine g_istore (npc := 49) (l' := [(0, .ref 53), (1, iV x1), (2, iV x2), (3, iV x3), (4, iV v15)]) dX9_lowestBorderEdge_47 rfl (by decide) rfl ?_
      refine g_iload (npc := 51) dX9_lowestBorderEdge_49 rfl rfl ?_
      obtain ⟨h19, hTt, hTf⟩ := hT
      refine g_if_eq (npc := 54) (tgt := 64) dX9_lowestBorderEdge_51 rfl (by decide) h19 (fun c20 => ?_) (fun c20 => ?_)
      · replace hT := hTt c20
        refine g_iinc (npc := 67) (y := (x3 + 1)) (l' := [(0, .ref 53), (1, iV x1), (2, iV x2), (3, iV (x3 + 1)), (4, iV v15)]) dX9_lowestBorderEdge_64 rfl (by decide) rfl (by omega) rfl ?_
        refine g_goto (npc := 2) dX9_lowestBorderEdge_67 (by decide) ?_
        refine Go.lsub [0, 1, 2, 3] rfl ?_
        exact hT
      · replace hT := hTf c20
        refine g_iload_n (npc := 55) dX9_lowestBorderEdge_54 rfl rfl rfl ?_
        refine g_iload_n (npc := 56) dX9_lowestBorderEdge_55 rfl rfl rfl ?_
        obtain ⟨Q21, h22, hT⟩ := hT
        refine iv_Tr_71 (npc := 59) dX9_lowestBorderEdge_56 rfl rfl (Nat.le_of_ble_eq_true rfl) (by decide) (by decide) h22 (fun r24 s23 e25 => ?_)
        replace hT := hT r24 s23 e25
        obtain ⟨h26, hTt, hTf⟩ := hT
        refine g_if_ne (npc := 62) (tgt := 64) dX9_lowestBorderEdge_59 rfl (by decide) h26 (fun c27 => ?_) (fun c27 => ?_)
        · replace hT := hTt c27
          refine g_iinc (npc := 67) (y := (x3 + 1)) (l' := [(0, .ref 53), (1, iV x1), (2, iV x2), (3, iV (x3 + 1)), (4, iV v15)]) dX9_lowestBorderEdge_64 rfl (by decide) rfl (by omega) rfl ?_
          refine g_goto (npc := 2) dX9_lowestBorderEdge_67 (by decide) ?_
          refine Go.lsub [0, 1, 2, 3] rfl ?_
          exact hT
        · replace hT := hTf (Decidable.not_not.mp c27)
          refine g_iload_n (npc := 63) dX9_lowestBorderEdge_62 rfl rfl rfl ?_
          exact g_iret dX9_lowestBorderEdge_63 rfl rfl (by decide) ⟨_, rfl, hT⟩
    obtain ⟨h17, hTt, hTf⟩ := hT
    refine g_icmp_eq (npc := 42) (tgt := 46) dX9_lowestBorderEdge_39 rfl (by decide) h17 (fun c18 => ?_) (fun c18 => ?_)
    · replace hT := hTt c18
      refine g_iconst (npc := 47) dX9_lowestBorderEdge_46 rfl ?_
      exact K29 _ hT
    · replace hT := hTf c18
      refine g_iconst (npc := 43) dX9_lowestBorderEdge_42 rfl ?_
      refine g_goto (npc := 47) dX9_lowestBorderEdge_43 (by decide) ?_
      exact K29 _ hT
set_option maxRecDepth 20000 in
theorem e_Tr_lowestBorderEdge {n : Nat} {x1 : Int} {x2 : Int} {s : Sto} {Q : Int → Sto → Prop} (hT : H_Tr_lowestBorderEdge_2 n Q x1 x2 0 s) : K_Tr_lowestBorderEdge n x1 x2 s Q := by
  refine Sp.body (by decide +kernel) (Nat.le_of_ble_eq_true rfl) ?_
  show Go (SL n) M_Tr_lowestBorderEdge (fI Q) 0 0 0 [(0, .ref 53), (1, iV x1), (2, iV x2)] [] s
  refine g_iconst (npc := 1) dX9_lowestBorderEdge_0 rfl ?_
  refine g_istore_n (npc := 2) (l' := [(0, .ref 53), (1, iV x1), (2, iV x2), (3, iV 0)]) dX9_lowestBorderEdge_1 rfl rfl (by decide) rfl ?_
  exact hT
set_option maxRecDepth 20000 in
theorem e_Tr_unmarkedEnd {n : Nat} {x1 : Int} {x2 : Int} {s : Sto} {Q : Int → Sto → Prop} (hT : (0 ≤ x1 ∧ x1 < 20) ∧ ∃ Q2 : Int → Sto → Prop, K_Tr_isIn n x2 (s 2 (Int.toNat x1)) s Q2 ∧ ∀ r5 s4, Q2 r5 s4 → (-2147483648 ≤ r5 ∧ r5 < 2147483648) ∧ ((r5 = 0) → (0 ≤ x1 ∧ x1 < 20) ∧ Q (s4 2 (Int.toNat x1)) s4) ∧ ((¬ r5 = 0) → (0 ≤ x1 ∧ x1 < 20) ∧ Q (s4 3 (Int.toNat x1)) s4)) : K_Tr_unmarkedEnd n x1 x2 s Q := by
  refine Sp.body (by decide +kernel) (Nat.le_of_ble_eq_true rfl) ?_
  show Go (SL n) M_Tr_unmarkedEnd (fI Q) 0 0 0 [(0, .ref 53), (1, iV x1), (2, iV x2)] [] s
  refine g_iload_n (npc := 1) dX9_unmarkedEnd_0 rfl rfl rfl ?_
  refine g_aload_n (npc := 2) dX9_unmarkedEnd_1 rfl rfl rfl ?_
  refine gf_Tr_15 (npc := 5) dX9_unmarkedEnd_2 rfl rfl ?_
  refine gf_Tr_68 (npc := 8) dX9_unmarkedEnd_5 rfl rfl ?_
  refine g_iload_n (npc := 9) dX9_unmarkedEnd_8 rfl rfl rfl ?_
  obtain ⟨h1, hT⟩ := hT
  refine g_iald (npc := 10) dX9_unmarkedEnd_9 rfl (arSL arSC_2) h1 ?_
  obtain ⟨Q2, h3, hT⟩ := hT
  refine iv_Tr_71 (npc := 13) dX9_unmarkedEnd_10 rfl rfl (Nat.le_of_ble_eq_true rfl) (by decide) (by decide) h3 (fun r5 s4 e6 => ?_)
  replace hT := hT r5 s4 e6
  obtain ⟨h7, hTt, hTf⟩ := hT
  refine g_if_eq (npc := 16) (tgt := 28) dX9_unmarkedEnd_13 rfl (by decide) h7 (fun c8 => ?_) (fun c8 => ?_)
  · replace hT := hTt c8
    refine g_aload_n (npc := 29) dX9_unmarkedEnd_28 rfl rfl rfl ?_
    refine gf_Tr_15 (npc := 32) dX9_unmarkedEnd_29 rfl rfl ?_
    refine gf_Tr_68 (npc := 35) dX9_unmarkedEnd_32 rfl rfl ?_
    refine g_iload_n (npc := 36) dX9_unmarkedEnd_35 rfl rfl rfl ?_
    obtain ⟨h9, hT⟩ := hT
    refine g_iald (npc := 37) dX9_unmarkedEnd_36 rfl (arSL arSC_2) h9 ?_
    exact g_iret dX9_unmarkedEnd_37 rfl rfl (by decide) ⟨_, rfl, hT⟩
  · replace hT := hTf c8
    refine g_aload_n (npc := 17) dX9_unmarkedEnd_16 rfl rfl rfl ?_
    refine gf_Tr_15 (npc := 20) dX9_unmarkedEnd_17 rfl rfl ?_
    refine gf_Tr_75 (npc := 23) dX9_unmarkedEnd_20 rfl rfl ?_
    refine g_iload_n (npc := 24) dX9_unmarkedEnd_23 rfl rfl rfl ?_
    obtain ⟨h10, hT⟩ := hT
    refine g_iald (npc := 25) dX9_unmarkedEnd_24 rfl (arSL arSC_3) h10 ?_
    refine g_goto (npc := 37) dX9_unmarkedEnd_25 (by decide) ?_
    exact g_iret dX9_unmarkedEnd_37 rfl rfl (by decide) ⟨_, rfl, hT⟩
abbrev H_Tr_treeOf_25 (n : Nat) (Q : Int → Sto → Prop) (k1 : Nat) (x2 : Int) (x3 : Int) (x4 : Int) (x5 : Int) (s : Sto) : Prop := Go (SL n) M_Tr_treeOf (fI Q) 0 0 25 [(0, .ref 53), (1, .ref k1), (2, iV x2), (3, iV x3), (4, iV x4), (5, iV x5)] [] s
set_option maxRecDepth 20000 in
theorem b_Tr_treeOf_25 {n : Nat} {Q : Int → Sto → Prop} {k1 : Nat} {x2 : Int} {x3 : Int} {x4 : Int} {x5 : Int} (hk1 : ar (SL n) k1 1 8) {s : Sto} (hT : ((-2147483648 ≤ x5 ∧ x5 < 2147483648) ∧ -2147483648 ≤ (s 1 1) ∧ (s 1 1) < 2147483648) ∧ (((s 1 1) ≤ x5) → Q x2 s) ∧ ((x5 < (s 1 1)) → ∃ Q8 : Int → Sto → Prop, K_Tr_lowestBorderEdge n x4 x3 s Q8 ∧ ∀ r11 s10, Q8 r11 s10 → ∃ Q13 : Int → Sto → Prop, K_Gr_hasEdge n r11 s10 Q13 ∧ ∀ r16 s15, Q13 r16 s15 → (-2147483648 ≤ r16 ∧ r16 < 2147483648) ∧ ((¬ r16 = 0) → ∃ Q20 : Int → Sto → Prop, K_Tr_unmarkedEnd n r11 x4 s15 Q20 ∧ ∀ r23 s22, Q20 r23 s22 → (0 ≤ r23 ∧ r23 < 8) ∧ (0 ≤ r23 ∧ r23 < 8) ∧ ∀ s27, s27 = up s22 54 (Int.toNat r23) ((s22 54 (Int.toNat r23)) + 1) → (0 ≤ r23 ∧ r23 < 8) ∧ ∃ Q29 : Int → Sto → Prop, K_Gr_degreeOf n r23 s27 Q29 ∧ ∀ r32 s31, Q29 r32 s31 → (0 ≤ r23 ∧ r23 < 8) ∧ ((-2147483648 ≤ (s27 54 (Int.toNat r23)) ∧ (s27 54 (Int.toNat r23)) < 2147483648) ∧ -2147483648 ≤ ((r32 - 1) - (s31 k1 (Int.toNat r23))) ∧ ((r32 - 1) - (s31 k1 (Int.toNat r23))) < 2147483648) ∧ (((s27 54 (Int.toNat r23)) ≤ ((r32 - 1) - (s31 k1 (Int.toNat r23)))) → H_Tr_treeOf_25 n Q k1 x2 (ior x3 (ishl 1 r11)) x4 (x5 + 1) s31) ∧ ((((r32 - 1) - (s31 k1 (Int.toNat r23))) < (s27 54 (Int.toNat r23))) → H_Tr_treeOf_25 n Q k1 (ior x2 (ishl 1 r11)) (ior x3 (ishl 1 r11)) (ior x4 (ishl 1 r23)) (x5 + 1) s31)) ∧ ((r16 = 0) → Q x2 s15))) : H_Tr_treeOf_25 n Q k1 x2 x3 x4 x5 s := by
  refine g_iload (npc := 27) dX9_treeOf_25 rfl rfl ?_
  refine g_aload_n (npc := 28) dX9_treeOf_27 rfl rfl rfl ?_
  refine gf_Tr_15 (npc := 31) dX9_treeOf_28 rfl rfl ?_
  refine gf_Tr_39 (npc := 34) dX9_treeOf_31 rfl rfl ?_
  obtain ⟨h6, hTt, hTf⟩ := hT
  refine g_icmp_ge (npc := 37) (tgt := 137) dX9_treeOf_34 rfl (by decide) h6 (fun c7 => ?_) (fun c7 => ?_)
  · replace hT := hTt c7
    refine g_iload_n (npc := 138) dX9_treeOf_137 rfl rfl rfl ?_
    exact g_iret dX9_treeOf_138 rfl rfl (by decide) ⟨_, rfl, hT⟩
  · replace hT := hTf (Int.not_le.mp c7)
    refine g_aload_n (npc := 38) dX9_treeOf_37 rfl rfl rfl ?_
    refine g_iload (npc := 40) dX9_treeOf_38 rfl rfl ?_
    refine g_iload_n (npc := 41) dX9_treeOf_40 rfl rfl rfl ?_
    obtain ⟨Q8, h9, hT⟩ := hT
    refine iv_Tr_54 (npc := 44) dX9_treeOf_41 rfl rfl (Nat.le_of_ble_eq_true rfl) (by decide) (by decide) h9 (fun r11 s10 e12 => ?_)
    replace hT := hT r11 s10 e12
    refine g_istore (npc := 46) (l' := [(0, .ref 53), (1, .ref k1), (2, iV x2), (3, iV x3), (4, iV x4), (5, iV x5), (6, iV r11)]) dX9_treeOf_44 rfl (by decide) rfl ?_
    refine g_aload_n (npc := 47) dX9_treeOf_46 rfl rfl rfl ?_
    refine gf_Tr_15 (npc := 50) dX9_treeOf_47 rfl rfl ?_
    refine g_iload (npc := 52) dX9_treeOf_50 rfl rfl ?_
    obtain ⟨Q13, h14, hT⟩ := hT
    refine iv_Tr_58 (npc := 55) dX9_treeOf_52 rfl rfl (Nat.le_of_ble_eq_true rfl) (by decide) (by decide) h14 (fun r16 s15 e17 => ?_)
    replace hT := hT r16 s15 e17
    obtain ⟨h18, hTt, hTf⟩ := hT
    refine g_if_ne (npc := 58) (tgt := 61) dX9_treeOf_55 rfl (by decide) h18 (fun c19 => ?_) (fun c19 => ?_)
    · replace hT := hTt c19
      refine g_iload_n (npc := 62) dX9_treeOf_61 rfl rfl rfl ?_
      refine g_iconst (npc := 63) dX9_treeOf_62 rfl ?_
      refine g_iload (npc := 65) dX9_treeOf_63 rfl rfl ?_
      refine g_ishl (npc := 66) dX9_treeOf_65 rfl ?_
      refine g_ior (npc := 67) dX9_treeOf_66 rfl ?_
      refine g_istore_n (npc := 68) (l' := [(0, .ref 53), (1, .ref k1), (2, iV x2), (3, iV (ior x3 (ishl 1 r11))), (4, iV x4), (5, iV x5), (6, iV r11)]) dX9_treeOf_67 rfl rfl (by decide) rfl ?_
      refine g_aload_n (npc := 69) dX9_treeOf_68 rfl rfl rfl ?_
      refine g_iload (npc := 71) dX9_treeOf_69 rfl rfl ?_
      refine g_iload (npc := 73) dX9_treeOf_71 rfl rfl ?_
      obtain ⟨Q20, h21, hT⟩ := hT
      refine iv_Tr_62 (npc := 76) dX9_treeOf_73 rfl rfl (Nat.le_of_ble_eq_true rfl) (by decide) (by decide) h21 (fun r23 s22 e24 => ?_)
      replace hT := hT r23 s22 e24
      refine g_istore (npc := 78) (l' := [(0, .ref 53), (1, .ref k1), (2, iV x2), (3, iV (ior x3 (ishl 1 r11))), (4, iV x4), (5, iV x5), (6, iV r11), (7, iV r23)]) dX9_treeOf_76 rfl (by decide) rfl ?_
      refine g_aload_n (npc := 79) dX9_treeOf_78 rfl rfl rfl ?_
      refine gf_Tr_9 (npc := 82) dX9_treeOf_79 rfl rfl ?_
      refine g_iload (npc := 84) dX9_treeOf_82 rfl rfl ?_
      refine g_dup2 (npc := 85) dX9_treeOf_84 rfl rfl rfl ?_
      obtain ⟨h25, hT⟩ := hT
      refine g_iald (npc := 86) dX9_treeOf_85 rfl (arSL arSC_54) h25 ?_
      refine g_iconst (npc := 87) dX9_treeOf_86 rfl ?_
      refine g_iadd (npc := 88) dX9_treeOf_87 rfl ?_
      obtain ⟨h26, hT⟩ := hT
      replace hT := hT _ rfl
      refine g_iast (npc := 89) dX9_treeOf_88 rfl (arSL arSC_54) h26  ?_
      refine g_aload_n (npc := 90) dX9_treeOf_89 rfl rfl rfl ?_
      refine gf_Tr_9 (npc := 93) dX9_treeOf_90 rfl rfl ?_
      refine g_iload (npc := 95) dX9_treeOf_93 rfl rfl ?_
      obtain ⟨h28, hT⟩ := hT
      refine g_iald (npc := 96) dX9_treeOf_95 rfl (arSL arSC_54) h28 ?_
      refine g_aload_n (npc := 97) dX9_treeOf_96 rfl rfl rfl ?_
      refine gf_Tr_15 (npc := 100) dX9_treeOf_97 rfl rfl ?_
      refine g_iload (npc := 102) dX9_treeOf_100 rfl rfl ?_
      obtain ⟨Q29, h30, hT⟩ := hT
      refine iv_Tr_65 (npc := 105) dX9_treeOf_102 rfl rfl (Nat.le_of_ble_eq_true rfl) (by decide) (by decide) h30 (fun r32 s31 e33 => ?_)
      replace hT := hT r32 s31 e33
      refine g_iconst (npc := 106) dX9_treeOf_105 rfl ?_
      refine g_isub (npc := 107) dX9_treeOf_106 rfl ?_
      refine g_aload_n (npc := 108) dX9_treeOf_107 rfl rfl rfl ?_
      refine g_iload (npc := 110) dX9_treeOf_108 rfl rfl ?_
      obtain ⟨h34, hT⟩ := hT
      refine g_iald (npc := 111) dX9_treeOf_110 rfl hk1 h34 ?_
      refine g_isub (npc := 112) dX9_treeOf_111 rfl ?_
      obtain ⟨h35, hTt, hTf⟩ := hT
      refine g_icmp_le (npc := 115) (tgt := 131) dX9_treeOf_112 rfl (by decide) h35 (fun c36 => ?_) (fun c36 => ?_)
      · replace hT := hTt c36
        refine g_iinc (npc := 134) (y := (x5 + 1)) (l' := [(0, .ref 53), (1, .ref k1), (2, iV x2), (3, iV (ior x3 (ishl 1 r11))), (4, iV x4), (5, iV (x5 + 1)), (6, iV r11), (7, iV r23)]) dX9_treeOf_131 rfl (by decide) rfl (by omega) rfl ?_
        refine g_goto (npc := 25) dX9_treeOf_134 (by decide) ?_
        refine Go.lsub [0, 1, 2, 3, 4, 5] rfl ?_
        exact hT
      · replace hT := hTf (Int.not_le.mp c36)
        refine g_iload (npc := 117) dX9_treeOf_115 rfl rfl ?_
        refine g_iconst (npc := 118) dX9_treeOf_117 rfl ?_
        refine g_iload (npc := 120) dX9_treeOf_118 rfl rfl ?_
        refine g_ishl (npc := 121) dX9_treeOf_120 rfl ?_
        refine g_ior (npc := 122) dX9_treeOf_121 rfl ?_
        refine g_istore (npc := 124) (l' := [(0, .ref 53), (1, .ref k1), (2, iV x2), (3, iV (ior x3 (ishl 1 r11))), (4, iV (ior x4 (ishl 1 r23))), (5, iV x5), (6, iV r11), (7, iV r23)]) dX9_treeOf_122 rfl (by decide) rfl ?_
        refine g_iload_n (npc := 125) dX9_treeOf_124 rfl rfl rfl ?_
        refine g_iconst (npc := 126) dX9_treeOf_125 rfl ?_
        refine g_iload (npc := 128) dX9_treeOf_126 rfl rfl ?_
        refine g_ishl (npc := 129) dX9_treeOf_128 rfl ?_
        refine g_ior (npc := 130) dX9_treeOf_129 rfl ?_
        refine g_istore_n (npc := 131) (l' := [(0, .ref 53), (1, .ref k1), (2, iV (ior x2 (ishl 1 r11))), (3, iV (ior x3 (ishl 1 r11))), (4, iV (ior x4 (ishl 1 r23))), (5, iV x5), (6, iV r11), (7, iV r23)]) dX9_treeOf_130 rfl rfl (by decide) rfl ?_
        refine g_iinc (npc := 134) (y := (x5 + 1)) (l' := [(0, .ref 53), (1, .ref k1), (2, iV (ior x2 (ishl 1 r11))), (3, iV (ior x3 (ishl 1 r11))), (4, iV (ior x4 (ishl 1 r23))), (5, iV (x5 + 1)), (6, iV r11), (7, iV r23)]) dX9_treeOf_131 rfl (by decide) rfl (by omega) rfl ?_
        refine g_goto (npc := 25) dX9_treeOf_134 (by decide) ?_
        refine Go.lsub [0, 1, 2, 3, 4, 5] rfl ?_
        exact hT
    · replace hT := hTf (Decidable.not_not.mp c19)
      refine g_goto (npc := 137) dX9_treeOf_58 (by decide) ?_
      refine g_iload_n (npc := 138) dX9_treeOf_137 rfl rfl rfl ?_
      exact g_iret dX9_treeOf_138 rfl rfl (by decide) ⟨_, rfl, hT⟩
set_option maxRecDepth 20000 in
theorem e_Tr_treeOf {n : Nat} {k1 : Nat} (hk1 : ar (SL n) k1 1 8) {s : Sto} {Q : Int → Sto → Prop} (hT : ∃ Q1 : Sto → Prop, K_Cg_clearChips n 54 s Q1 ∧ ∀ s3, Q1 s3 → H_Tr_treeOf_25 n Q k1 0 0 (ishl 1 (s3 1 2)) 0 s3) : K_Tr_treeOf n k1 s Q := by
  refine Sp.body (by decide +kernel) (Nat.le_of_ble_eq_true rfl) ?_
  show Go (SL n) M_Tr_treeOf (fI Q) 0 0 0 [(0, .ref 53), (1, .ref k1)] [] s
  refine g_aload_n (npc := 1) dX9_treeOf_0 rfl rfl rfl ?_
  refine gf_Tr_9 (npc := 4) dX9_treeOf_1 rfl rfl ?_
  obtain ⟨Q1, h2, hT⟩ := hT
  refine iv_Tr_47 (npc := 7) dX9_treeOf_4 rfl rfl (Nat.le_of_ble_eq_true rfl) (by decide) (by decide) h2 (fun s3 e5 => ?_)
  replace hT := hT s3 e5
  refine g_iconst (npc := 8) dX9_treeOf_7 rfl ?_
  refine g_istore_n (npc := 9) (l' := [(0, .ref 53), (1, .ref k1), (2, iV 0)]) dX9_treeOf_8 rfl rfl (by decide) rfl ?_
  refine g_iconst (npc := 10) dX9_treeOf_9 rfl ?_
  refine g_istore_n (npc := 11) (l' := [(0, .ref 53), (1, .ref k1), (2, iV 0), (3, iV 0)]) dX9_treeOf_10 rfl rfl (by decide) rfl ?_
  refine g_iconst (npc := 12) dX9_treeOf_11 rfl ?_
  refine g_aload_n (npc := 13) dX9_treeOf_12 rfl rfl rfl ?_
  refine gf_Tr_15 (npc := 16) dX9_treeOf_13 rfl rfl ?_
  refine gf_Tr_51 (npc := 19) dX9_treeOf_16 rfl rfl ?_
  refine g_ishl (npc := 20) dX9_treeOf_19 rfl ?_
  refine g_istore (npc := 22) (l' := [(0, .ref 53), (1, .ref k1), (2, iV 0), (3, iV 0), (4, iV (ishl 1 (s3 1 2)))]) dX9_treeOf_20 rfl (by decide) rfl ?_
  refine g_iconst (npc := 23) dX9_treeOf_22 rfl ?_
  refine g_istore (npc := 25) (l' := [(0, .ref 53), (1, .ref k1), (2, iV 0), (3, iV 0), (4, iV (ishl 1 (s3 1 2))), (5, iV 0)]) dX9_treeOf_23 rfl (by decide) rfl ?_
  exact hT
abbrev H_Tr_toStateOf_23 (n : Nat) (Q : Sto → Prop) (x1 : Int) (k2 : Nat) (x3 : Int) (x4 : Int) (x5 : Int) (s : Sto) : Prop := Go (SL n) M_Tr_toStateOf (fV0 Q) 0 0 23 [(0, .ref 53), (1, iV x1), (2, .ref k2), (3, iV x3), (4, iV x4), (5, iV x5)] [] s
set_option maxRecDepth 20000 in
theorem b_Tr_toStateOf_23 {n : Nat} {Q : Sto → Prop} {x1 : Int} {k2 : Nat} {x3 : Int} {x4 : Int} {x5 : Int} (hk2 : ar (SL n) k2 1 8) {s : Sto} (hT : ((-2147483648 ≤ x5 ∧ x5 < 2147483648) ∧ -2147483648 ≤ (s 1 1) ∧ (s 1 1) < 2147483648) ∧ (((s 1 1) ≤ x5) → Q s) ∧ ((x5 < (s 1 1)) → ∃ Q8 : Int → Sto → Prop, K_Tr_lowestBorderEdge n x4 x3 s Q8 ∧ ∀ r11 s10, Q8 r11 s10 → ∃ Q13 : Int → Sto → Prop, K_Gr_hasEdge n r11 s10 Q13 ∧ ∀ r16 s15, Q13 r16 s15 → (-2147483648 ≤ r16 ∧ r16 < 2147483648) ∧ ((¬ r16 = 0) → ∃ Q20 : Int → Sto → Prop, K_Tr_unmarkedEnd n r11 x4 s15 Q20 ∧ ∀ r23 s22, Q20 r23 s22 → (0 ≤ r23 ∧ r23 < 8) ∧ (0 ≤ r23 ∧ r23 < 8) ∧ ∀ s27, s27 = up s22 54 (Int.toNat r23) ((s22 54 (Int.toNat r23)) + 1) → (-2147483648 ≤ (iand (ishr x1 r11) 1) ∧ (iand (ishr x1 r11) 1) < 2147483648) ∧ (((iand (ishr x1 r11) 1) = 0) → H_Tr_toStateOf_23 n Q x1 k2 (ior x3 (ishl 1 r11)) x4 (x5 + 1) s27) ∧ ((¬ (iand (ishr x1 r11) 1) = 0) → ∃ Q30 : Int → Sto → Prop, K_Gr_degreeOf n r23 s27 Q30 ∧ ∀ r33 s32, Q30 r33 s32 → (0 ≤ r23 ∧ r23 < 8) ∧ (0 ≤ r23 ∧ r23 < 8) ∧ ∀ s37, s37 = up s32 k2 (Int.toNat r23) (r33 - (s32 54 (Int.toNat r23))) → H_Tr_toStateOf_23 n Q x1 k2 (ior x3 (ishl 1 r11)) (ior x4 (ishl 1 r23)) (x5 + 1) s37)) ∧ ((r16 = 0) → Q s15))) : H_Tr_toStateOf_23 n Q x1 k2 x3 x4 x5 s := by
  refine g_iload (npc := 25) dX9_toStateOf_23 rfl rfl ?_
  refine g_aload_n (npc := 26) dX9_toStateOf_25 rfl rfl rfl ?_
  refine gf_Tr_15 (npc := 29) dX9_toStateOf_26 rfl rfl ?_
  refine gf_Tr_39 (npc := 32) dX9_toStateOf_29 rfl rfl ?_
  obtain ⟨h6, hTt, hTf⟩ := hT
  refine g_icmp_ge (npc := 35) (tgt := 132) dX9_toStateOf_32 rfl (by decide) h6 (fun c7 => ?_) (fun c7 => ?_)
  · replace hT := hTt c7
    exact g_ret dX9_toStateOf_132 rfl (by decide) ⟨rfl, hT⟩
  · replace hT := hTf (Int.not_le.mp c7)
    refine g_aload_n (npc := 36) dX9_toStateOf_35 rfl rfl rfl ?_
    refine g_iload (npc := 38) dX9_toStateOf_36 rfl rfl ?_
    refine g_iload_n (npc := 39) dX9_toStateOf_38 rfl rfl rfl ?_
    obtain ⟨Q8, h9, hT⟩ := hT
    refine iv_Tr_54 (npc := 42) dX9_toStateOf_39 rfl rfl (Nat.le_of_ble_eq_true rfl) (by decide) (by decide) h9 (fun r11 s10 e12 => ?_)
    replace hT := hT r11 s10 e12
    refine g_istore (npc := 44) (l' := [(0, .ref 53), (1, iV x1), (2, .ref k2), (3, iV x3), (4, iV x4), (5, iV x5), (6, iV r11)]) dX9_toStateOf_42 rfl (by decide) rfl ?_
    refine g_aload_n (npc := 45) dX9_toStateOf_44 rfl rfl rfl ?_
    refine gf_Tr_15 (npc := 48) dX9_toStateOf_45 rfl rfl ?_
    refine g_iload (npc := 50) dX9_toStateOf_48 rfl rfl ?_
    obtain ⟨Q13, h14, hT⟩ := hT
    refine iv_Tr_58 (npc := 53) dX9_toStateOf_50 rfl rfl (Nat.le_of_ble_eq_true rfl) (by decide) (by decide) h14 (fun r16 s15 e17 => ?_)
    replace hT := hT r16 s15 e17
    obtain ⟨h18, hTt, hTf⟩ := hT
    refine g_if_ne (npc := 56) (tgt := 59) dX9_toStateOf_53 rfl (by decide) h18 (fun c19 => ?_) (fun c19 => ?_)
    · replace hT := hTt c19
      refine g_iload_n (npc := 60) dX9_toStateOf_59 rfl rfl rfl ?_
      refine g_iconst (npc := 61) dX9_toStateOf_60 rfl ?_
      refine g_iload (npc := 63) dX9_toStateOf_61 rfl rfl ?_
      refine g_ishl (npc := 64) dX9_toStateOf_63 rfl ?_
      refine g_ior (npc := 65) dX9_toStateOf_64 rfl ?_
      refine g_istore_n (npc := 66) (l' := [(0, .ref 53), (1, iV x1), (2, .ref k2), (3, iV (ior x3 (ishl 1 r11))), (4, iV x4), (5, iV x5), (6, iV r11)]) dX9_toStateOf_65 rfl rfl (by decide) rfl ?_
      refine g_aload_n (npc := 67) dX9_toStateOf_66 rfl rfl rfl ?_
      refine g_iload (npc := 69) dX9_toStateOf_67 rfl rfl ?_
      refine g_iload (npc := 71) dX9_toStateOf_69 rfl rfl ?_
      obtain ⟨Q20, h21, hT⟩ := hT
      refine iv_Tr_62 (npc := 74) dX9_toStateOf_71 rfl rfl (Nat.le_of_ble_eq_true rfl) (by decide) (by decide) h21 (fun r23 s22 e24 => ?_)
      replace hT := hT r23 s22 e24
      refine g_istore (npc := 76) (l' := [(0, .ref 53), (1, iV x1), (2, .ref k2), (3, iV (ior x3 (ishl 1 r11))), (4, iV x4), (5, iV x5), (6, iV r11), (7, iV r23)]) dX9_toStateOf_74 rfl (by decide) rfl ?_
      refine g_aload_n (npc := 77) dX9_toStateOf_76 rfl rfl rfl ?_
      refine gf_Tr_9 (npc := 80) dX9_toStateOf_77 rfl rfl ?_
      refine g_iload (npc := 82) dX9_toStateOf_80 rfl rfl ?_
      refine g_dup2 (npc := 83) dX9_toStateOf_82 rfl rfl rfl ?_
      obtain ⟨h25, hT⟩ := hT
      refine g_iald (npc := 84) dX9_toStateOf_83 rfl (arSL arSC_54) h25 ?_
      refine g_iconst (npc := 85) dX9_toStateOf_84 rfl ?_
      refine g_iadd (npc := 86) dX9_toStateOf_85 rfl ?_
      obtain ⟨h26, hT⟩ := hT
      replace hT := hT _ rfl
      refine g_iast (npc := 87) dX9_toStateOf_86 rfl (arSL arSC_54) h26  ?_
      refine g_iload_n (npc := 88) dX9_toStateOf_87 rfl rfl rfl ?_
      refine g_iload (npc := 90) dX9_toStateOf_88 rfl rfl ?_
      refine g_ishr (npc := 91) dX9_toStateOf_90 rfl ?_
      refine g_iconst (npc := 92) dX9_toStateOf_91 rfl ?_
      refine g_iand (npc := 93) dX9_toStateOf_92 rfl ?_
      obtain ⟨h28, hTt, hTf⟩ := hT
      refine g_if_eq (npc := 96) (tgt := 126) dX9_toStateOf_93 rfl (by decide) h28 (fun c29 => ?_) (fun c29 => ?_)
      · replace hT := hTt c29
        refine g_iinc (npc := 129) (y := (x5 + 1)) (l' := [(0, .ref 53), (1, iV x1), (2, .ref k2), (3, iV (ior x3 (ishl 1 r11))), (4, iV x4), (5, iV (x5 + 1)), (6, iV r11), (7, iV r23)]) dX9_toStateOf_126 rfl (by decide) rfl (by omega) rfl ?_
        refine g_goto (npc := 23) dX9_toStateOf_129 (by decide) ?_
        refine Go.lsub [0, 1, 2, 3, 4, 5] rfl ?_
        exact hT
      · replace hT := hTf c29
        refine g_iload (npc := 98) dX9_toStateOf_96 rfl rfl ?_
        refine g_iconst (npc := 99) dX9_toStateOf_98 rfl ?_
        refine g_iload (npc := 101) dX9_toStateOf_99 rfl rfl ?_
        refine g_ishl (npc := 102) dX9_toStateOf_101 rfl ?_
        refine g_ior (npc := 103) dX9_toStateOf_102 rfl ?_
        refine g_istore (npc := 105) (l' := [(0, .ref 53), (1, iV x1), (2, .ref k2), (3, iV (ior x3 (ishl 1 r11))), (4, iV (ior x4 (ishl 1 r23))), (5, iV x5), (6, iV r11), (7, iV r23)]) dX9_toStateOf_103 rfl (by decide) rfl ?_
        refine g_aload_n (npc := 106) dX9_toStateOf_105 rfl rfl rfl ?_
        refine g_iload (npc := 108) dX9_toStateOf_106 rfl rfl ?_
        refine g_aload_n (npc := 109) dX9_toStateOf_108 rfl rfl rfl ?_
        refine gf_Tr_15 (npc := 112) dX9_toStateOf_109 rfl rfl ?_
        refine g_iload (npc := 114) dX9_toStateOf_112 rfl rfl ?_
        obtain ⟨Q30, h31, hT⟩ := hT
        refine iv_Tr_65 (npc := 117) dX9_toStateOf_114 rfl rfl (Nat.le_of_ble_eq_true rfl) (by decide) (by decide) h31 (fun r33 s32 e34 => ?_)
        replace hT := hT r33 s32 e34
        refine g_aload_n (npc := 118) dX9_toStateOf_117 rfl rfl rfl ?_
        refine gf_Tr_9 (npc := 121) dX9_toStateOf_118 rfl rfl ?_
        refine g_iload (npc := 123) dX9_toStateOf_121 rfl rfl ?_
        obtain ⟨h35, hT⟩ := hT
        refine g_iald (npc := 124) dX9_toStateOf_123 rfl (arSL arSC_54) h35 ?_
        refine g_isub (npc := 125) dX9_toStateOf_124 rfl ?_
        obtain ⟨h36, hT⟩ := hT
        replace hT := hT _ rfl
        refine g_iast (npc := 126) dX9_toStateOf_125 rfl hk2 h36  ?_
        refine g_iinc (npc := 129) (y := (x5 + 1)) (l' := [(0, .ref 53), (1, iV x1), (2, .ref k2), (3, iV (ior x3 (ishl 1 r11))), (4, iV (ior x4 (ishl 1 r23))), (5, iV (x5 + 1)), (6, iV r11), (7, iV r23)]) dX9_toStateOf_126 rfl (by decide) rfl (by omega) rfl ?_
        refine g_goto (npc := 23) dX9_toStateOf_129 (by decide) ?_
        refine Go.lsub [0, 1, 2, 3, 4, 5] rfl ?_
        exact hT
    · replace hT := hTf (Decidable.not_not.mp c19)
      refine g_goto (npc := 132) dX9_toStateOf_56 (by decide) ?_
      exact g_ret dX9_toStateOf_132 rfl (by decide) ⟨rfl, hT⟩
set_option maxRecDepth 20000 in
theorem e_Tr_toStateOf {n : Nat} {x1 : Int} {k2 : Nat} (hk2 : ar (SL n) k2 1 8) {s : Sto} {Q : Sto → Prop} (hT : ∃ Q1 : Sto → Prop, K_Cg_clearChips n 54 s Q1 ∧ ∀ s3, Q1 s3 → H_Tr_toStateOf_23 n Q x1 k2 0 (ishl 1 (s3 1 2)) 0 s3) : K_Tr_toStateOf n x1 k2 s Q := by
  refine Sp.body (by decide +kernel) (Nat.le_of_ble_eq_true rfl) ?_
  show Go (SL n) M_Tr_toStateOf (fV0 Q) 0 0 0 [(0, .ref 53), (1, iV x1), (2, .ref k2)] [] s
  refine g_aload_n (npc := 1) dX9_toStateOf_0 rfl rfl rfl ?_
  refine gf_Tr_9 (npc := 4) dX9_toStateOf_1 rfl rfl ?_
  obtain ⟨Q1, h2, hT⟩ := hT
  refine iv_Tr_47 (npc := 7) dX9_toStateOf_4 rfl rfl (Nat.le_of_ble_eq_true rfl) (by decide) (by decide) h2 (fun s3 e5 => ?_)
  replace hT := hT s3 e5
  refine g_iconst (npc := 8) dX9_toStateOf_7 rfl ?_
  refine g_istore_n (npc := 9) (l' := [(0, .ref 53), (1, iV x1), (2, .ref k2), (3, iV 0)]) dX9_toStateOf_8 rfl rfl (by decide) rfl ?_
  refine g_iconst (npc := 10) dX9_toStateOf_9 rfl ?_
  refine g_aload_n (npc := 11) dX9_toStateOf_10 rfl rfl rfl ?_
  refine gf_Tr_15 (npc := 14) dX9_toStateOf_11 rfl rfl ?_
  refine gf_Tr_51 (npc := 17) dX9_toStateOf_14 rfl rfl ?_
  refine g_ishl (npc := 18) dX9_toStateOf_17 rfl ?_
  refine g_istore (npc := 20) (l' := [(0, .ref 53), (1, iV x1), (2, .ref k2), (3, iV 0), (4, iV (ishl 1 (s3 1 2)))]) dX9_toStateOf_18 rfl (by decide) rfl ?_
  refine g_iconst (npc := 21) dX9_toStateOf_20 rfl ?_
  refine g_istore (npc := 23) (l' := [(0, .ref 53), (1, iV x1), (2, .ref k2), (3, iV 0), (4, iV (ishl 1 (s3 1 2))), (5, iV 0)]) dX9_toStateOf_21 rfl (by decide) rfl ?_
  exact hT
abbrev H_Tr_treeNumbered_20 (n : Nat) (Q : Int → Sto → Prop) (x2 : Int) (x4 : Int) (x5 : Int) (x6 : Int) (s : Sto) : Prop := Go (SL n) M_Tr_treeNumbered (fI Q) 0 0 20 [(0, .ref 53), (2, jV x2), (4, iV x4), (5, iV x5), (6, iV x6)] [] s
set_option maxRecDepth 20000 in
theorem b_Tr_treeNumbered_20 {n : Nat} {Q : Int → Sto → Prop} {x2 : Int} {x4 : Int} {x5 : Int} {x6 : Int} {s : Sto} (hT : (-2147483648 ≤ x6 ∧ x6 < 2147483648) ∧ ((x6 < 0) → Q x4 s) ∧ ((0 ≤ x6) → ∃ Q4 : Int → Sto → Prop, K_Tr_count n x4 (ior x5 (ishl 1 x6)) s Q4 ∧ ∀ r7 s6, Q4 r7 s6 → ((-9223372036854775808 ≤ x2 ∧ x2 < 9223372036854775808) ∧ -9223372036854775808 ≤ r7 ∧ r7 < 9223372036854775808) ∧ ((r7 ≤ x2) → H_Tr_treeNumbered_20 n Q (x2 - r7) (ior x4 (ishl 1 x6)) x5 (x6 - 1) s6) ∧ ((x2 < r7) → H_Tr_treeNumbered_20 n Q x2 x4 (ior x5 (ishl 1 x6)) (x6 - 1) s6))) : H_Tr_treeNumbered_20 n Q x2 x4 x5 x6 s := by
  refine g_iload (npc := 22) dX9_treeNumbered_20 rfl rfl ?_
  obtain ⟨h2, hTt, hTf⟩ := hT
  refine g_if_lt (npc := 25) (tgt := 79) dX9_treeNumbered_22 rfl (by decide) h2 (fun c3 => ?_) (fun c3 => ?_)
  · replace hT := hTt c3
    refine g_iload (npc := 81) dX9_treeNumbered_79 rfl rfl ?_
    exact g_iret dX9_treeNumbered_81 rfl rfl (by decide) ⟨_, rfl, hT⟩
  · replace hT := hTf (Int.not_lt.mp c3)
    refine g_iconst (npc := 26) dX9_treeNumbered_25 rfl ?_
    refine g_iload (npc := 28) dX9_treeNumbered_26 rfl rfl ?_
    refine g_ishl (npc := 29) dX9_treeNumbered_28 rfl ?_
    refine g_istore (npc := 31) (l' := [(0, .ref 53), (2, jV x2), (4, iV x4), (5, iV x5), (6, iV x6), (7, iV (ishl 1 x6))]) dX9_treeNumbered_29 rfl (by decide) rfl ?_
    refine g_aload_n (npc := 32) dX9_treeNumbered_31 rfl rfl rfl ?_
    refine g_iload (npc := 34) dX9_treeNumbered_32 rfl rfl ?_
    refine g_iload (npc := 36) dX9_treeNumbered_34 rfl rfl ?_
    refine g_iload (npc := 38) dX9_treeNumbered_36 rfl rfl ?_
    refine g_ior (npc := 39) dX9_treeNumbered_38 rfl ?_
    obtain ⟨Q4, h5, hT⟩ := hT
    refine iv_Tr_43 (npc := 42) dX9_treeNumbered_39 rfl rfl (Nat.le_of_ble_eq_true rfl) (by decide) (by decide) h5 (fun r7 s6 e8 => ?_)
    replace hT := hT r7 s6 e8
    refine g_lstore (npc := 44) (l' := [(0, .ref 53), (2, jV x2), (4, iV x4), (5, iV x5), (6, iV x6), (7, iV (ishl 1 x6)), (8, jV r7)]) dX9_treeNumbered_42 rfl (by decide) rfl ?_
    refine g_lload_n (npc := 45) dX9_treeNumbered_44 rfl rfl rfl ?_
    refine g_lload (npc := 47) dX9_treeNumbered_45 rfl rfl ?_
    obtain ⟨h9, hTt, hTf⟩ := hT
    refine g_lge (pc2 := 48) (npc := 51) (tgt := 61) dX9_treeNumbered_47 rfl dX9_treeNumbered_48 rfl (by decide) h9 (fun c10 => ?_) (fun c10 => ?_)
    · replace hT := hTt c10
      refine g_lload_n (npc := 62) dX9_treeNumbered_61 rfl rfl rfl ?_
      refine g_lload (npc := 64) dX9_treeNumbered_62 rfl rfl ?_
      refine g_lsub (npc := 65) dX9_treeNumbered_64 rfl ?_
      refine g_lstore_n (npc := 66) (l' := [(0, .ref 53), (2, jV (x2 - r7)), (4, iV x4), (5, iV x5), (6, iV x6), (7, iV (ishl 1 x6)), (8, jV r7)]) dX9_treeNumbered_65 rfl rfl (by decide) rfl ?_
      refine g_iload (npc := 68) dX9_treeNumbered_66 rfl rfl ?_
      refine g_iload (npc := 70) dX9_treeNumbered_68 rfl rfl ?_
      refine g_ior (npc := 71) dX9_treeNumbered_70 rfl ?_
      refine g_istore (npc := 73) (l' := [(0, .ref 53), (2, jV (x2 - r7)), (4, iV (ior x4 (ishl 1 x6))), (5, iV x5), (6, iV x6), (7, iV (ishl 1 x6)), (8, jV r7)]) dX9_treeNumbered_71 rfl (by decide) rfl ?_
      refine g_iinc (npc := 76) (y := (x6 - 1)) (l' := [(0, .ref 53), (2, jV (x2 - r7)), (4, iV (ior x4 (ishl 1 x6))), (5, iV x5), (6, iV (x6 - 1)), (7, iV (ishl 1 x6)), (8, jV r7)]) dX9_treeNumbered_73 rfl (by decide) rfl (by omega) rfl ?_
      refine g_goto (npc := 20) dX9_treeNumbered_76 (by decide) ?_
      refine Go.lsub [0, 1, 2, 3, 4] rfl ?_
      exact hT
    · replace hT := hTf (Int.not_le.mp c10)
      refine g_iload (npc := 53) dX9_treeNumbered_51 rfl rfl ?_
      refine g_iload (npc := 55) dX9_treeNumbered_53 rfl rfl ?_
      refine g_ior (npc := 56) dX9_treeNumbered_55 rfl ?_
      refine g_istore (npc := 58) (l' := [(0, .ref 53), (2, jV x2), (4, iV x4), (5, iV (ior x5 (ishl 1 x6))), (6, iV x6), (7, iV (ishl 1 x6)), (8, jV r7)]) dX9_treeNumbered_56 rfl (by decide) rfl ?_
      refine g_goto (npc := 73) dX9_treeNumbered_58 (by decide) ?_
      refine g_iinc (npc := 76) (y := (x6 - 1)) (l' := [(0, .ref 53), (2, jV x2), (4, iV x4), (5, iV (ior x5 (ishl 1 x6))), (6, iV (x6 - 1)), (7, iV (ishl 1 x6)), (8, jV r7)]) dX9_treeNumbered_73 rfl (by decide) rfl (by omega) rfl ?_
      refine g_goto (npc := 20) dX9_treeNumbered_76 (by decide) ?_
      refine Go.lsub [0, 1, 2, 3, 4] rfl ?_
      exact hT
set_option maxRecDepth 20000 in
theorem e_Tr_treeNumbered {n : Nat} {x1 : Int} {s : Sto} {Q : Int → Sto → Prop} (hT : (-2147483648 ≤ x1 ∧ x1 < 2147483648) ∧ H_Tr_treeNumbered_20 n Q x1 0 0 ((s 1 1) - 1) s) : K_Tr_treeNumbered n x1 s Q := by
  refine Sp.body (by decide +kernel) (Nat.le_of_ble_eq_true rfl) ?_
  show Go (SL n) M_Tr_treeNumbered (fI Q) 0 0 0 [(0, .ref 53), (1, iV x1)] [] s
  refine g_iload_n (npc := 1) dX9_treeNumbered_0 rfl rfl rfl ?_
  obtain ⟨h1, hT⟩ := hT
  refine g_i2l (npc := 2) dX9_treeNumbered_1 rfl h1 ?_
  refine g_lstore_n (npc := 3) (l' := [(0, .ref 53), (1, iV x1), (2, jV x1)]) dX9_treeNumbered_2 rfl rfl (by decide) rfl ?_
  refine g_iconst (npc := 4) dX9_treeNumbered_3 rfl ?_
  refine g_istore (npc := 6) (l' := [(0, .ref 53), (1, iV x1), (2, jV x1), (4, iV 0)]) dX9_treeNumbered_4 rfl (by decide) rfl ?_
  refine g_iconst (npc := 7) dX9_treeNumbered_6 rfl ?_
  refine g_istore (npc := 9) (l' := [(0, .ref 53), (1, iV x1), (2, jV x1), (4, iV 0), (5, iV 0)]) dX9_treeNumbered_7 rfl (by decide) rfl ?_
  refine g_aload_n (npc := 10) dX9_treeNumbered_9 rfl rfl rfl ?_
  refine gf_Tr_15 (npc := 13) dX9_treeNumbered_10 rfl rfl ?_
  refine gf_Tr_39 (npc := 16) dX9_treeNumbered_13 rfl rfl ?_
  refine g_iconst (npc := 17) dX9_treeNumbered_16 rfl ?_
  refine g_isub (npc := 18) dX9_treeNumbered_17 rfl ?_
  refine g_istore (npc := 20) (l' := [(0, .ref 53), (1, iV x1), (2, jV x1), (4, iV 0), (5, iV 0), (6, iV ((s 1 1) - 1))]) dX9_treeNumbered_18 rfl (by decide) rfl ?_
  refine Go.lsub [0, 2, 3, 4, 5] rfl ?_
  exact hT
