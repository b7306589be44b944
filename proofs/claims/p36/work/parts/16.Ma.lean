/-! blocks of ChipGame$Matrix -/
theorem dX5_fill_0 : decode cX5_fill 0 = .ok (.aload_n 0, 1) := by decide +kernel
theorem dX5_fill_1 : decode cX5_fill 1 = .ok (.aload_n 0, 1) := by decide +kernel
theorem dX5_fill_2 : decode cX5_fill 2 = .ok (.getfield 27, 3) := by decide +kernel
theorem dX5_fill_5 : decode cX5_fill 5 = .ok (.getfield 31, 3) := by decide +kernel
theorem dX5_fill_8 : decode cX5_fill 8 = .ok (.putfield 24, 3) := by decide +kernel
theorem dX5_fill_11 : decode cX5_fill 11 = .ok (.iconst 0, 1) := by decide +kernel
theorem dX5_fill_12 : decode cX5_fill 12 = .ok (.istore_n 2, 1) := by decide +kernel
theorem dX5_fill_13 : decode cX5_fill 13 = .ok (.iload_n 2, 1) := by decide +kernel
theorem dX5_fill_14 : decode cX5_fill 14 = .ok (.aload_n 0, 1) := by decide +kernel
theorem dX5_fill_15 : decode cX5_fill 15 = .ok (.getfield 24, 3) := by decide +kernel
theorem dX5_fill_18 : decode cX5_fill 18 = .ok (.if_icmp .ge 51, 3) := by decide +kernel
theorem dX5_fill_21 : decode cX5_fill 21 = .ok (.iconst 0, 1) := by decide +kernel
theorem dX5_fill_22 : decode cX5_fill 22 = .ok (.istore_n 3, 1) := by decide +kernel
theorem dX5_fill_23 : decode cX5_fill 23 = .ok (.iload_n 3, 1) := by decide +kernel
theorem dX5_fill_24 : decode cX5_fill 24 = .ok (.aload_n 0, 1) := by decide +kernel
theorem dX5_fill_25 : decode cX5_fill 25 = .ok (.getfield 24, 3) := by decide +kernel
theorem dX5_fill_28 : decode cX5_fill 28 = .ok (.if_icmp .gt 35, 3) := by decide +kernel
theorem dX5_fill_31 : decode cX5_fill 31 = .ok (.aload_n 0, 1) := by decide +kernel
theorem dX5_fill_32 : decode cX5_fill 32 = .ok (.getfield 21, 3) := by decide +kernel
theorem dX5_fill_35 : decode cX5_fill 35 = .ok (.iload_n 2, 1) := by decide +kernel
theorem dX5_fill_36 : decode cX5_fill 36 = .ok (.aaload, 1) := by decide +kernel
theorem dX5_fill_37 : decode cX5_fill 37 = .ok (.iload_n 3, 1) := by decide +kernel
theorem dX5_fill_38 : decode cX5_fill 38 = .ok (.iload_n 2, 1) := by decide +kernel
theorem dX5_fill_39 : decode cX5_fill 39 = .ok (.iload_n 3, 1) := by decide +kernel
theorem dX5_fill_40 : decode cX5_fill 40 = .ok (.if_icmp .ne 15, 3) := by decide +kernel
theorem dX5_fill_43 : decode cX5_fill 43 = .ok (.aload_n 0, 1) := by decide +kernel
theorem dX5_fill_44 : decode cX5_fill 44 = .ok (.iload_n 2, 1) := by decide +kernel
theorem dX5_fill_45 : decode cX5_fill 45 = .ok (.invokevirtual 36, 3) := by decide +kernel
theorem dX5_fill_48 : decode cX5_fill 48 = .ok (.ifCond .ne 7, 3) := by decide +kernel
theorem dX5_fill_51 : decode cX5_fill 51 = .ok (.lconst 1, 1) := by decide +kernel
theorem dX5_fill_52 : decode cX5_fill 52 = .ok (.goto 4, 3) := by decide +kernel
theorem dX5_fill_55 : decode cX5_fill 55 = .ok (.lconst 0, 1) := by decide +kernel
theorem dX5_fill_56 : decode cX5_fill 56 = .ok (.lastore, 1) := by decide +kernel
theorem dX5_fill_57 : decode cX5_fill 57 = .ok (.iinc 3 1, 3) := by decide +kernel
theorem dX5_fill_60 : decode cX5_fill 60 = .ok (.goto (-37), 3) := by decide +kernel
theorem dX5_fill_63 : decode cX5_fill 63 = .ok (.iinc 2 1, 3) := by decide +kernel
theorem dX5_fill_66 : decode cX5_fill 66 = .ok (.goto (-53), 3) := by decide +kernel
theorem dX5_fill_69 : decode cX5_fill 69 = .ok (.iconst 0, 1) := by decide +kernel
theorem dX5_fill_70 : decode cX5_fill 70 = .ok (.istore_n 2, 1) := by decide +kernel
theorem dX5_fill_71 : decode cX5_fill 71 = .ok (.iload_n 2, 1) := by decide +kernel
theorem dX5_fill_72 : decode cX5_fill 72 = .ok (.aload_n 0, 1) := by decide +kernel
theorem dX5_fill_73 : decode cX5_fill 73 = .ok (.getfield 27, 3) := by decide +kernel
theorem dX5_fill_76 : decode cX5_fill 76 = .ok (.getfield 40, 3) := by decide +kernel
theorem dX5_fill_79 : decode cX5_fill 79 = .ok (.if_icmp .ge 67, 3) := by decide +kernel
theorem dX5_fill_82 : decode cX5_fill 82 = .ok (.aload_n 0, 1) := by decide +kernel
theorem dX5_fill_83 : decode cX5_fill 83 = .ok (.getfield 27, 3) := by decide +kernel
theorem dX5_fill_86 : decode cX5_fill 86 = .ok (.getfield 43, 3) := by decide +kernel
theorem dX5_fill_89 : decode cX5_fill 89 = .ok (.aload_n 0, 1) := by decide +kernel
theorem dX5_fill_90 : decode cX5_fill 90 = .ok (.getfield 27, 3) := by decide +kernel
theorem dX5_fill_93 : decode cX5_fill 93 = .ok (.getfield 47, 3) := by decide +kernel
theorem dX5_fill_96 : decode cX5_fill 96 = .ok (.iload_n 2, 1) := by decide +kernel
theorem dX5_fill_97 : decode cX5_fill 97 = .ok (.iaload, 1) := by decide +kernel
theorem dX5_fill_98 : decode cX5_fill 98 = .ok (.iaload, 1) := by decide +kernel
theorem dX5_fill_99 : decode cX5_fill 99 = .ok (.istore_n 3, 1) := by decide +kernel
theorem dX5_fill_100 : decode cX5_fill 100 = .ok (.aload_n 0, 1) := by decide +kernel
theorem dX5_fill_101 : decode cX5_fill 101 = .ok (.getfield 27, 3) := by decide +kernel
theorem dX5_fill_104 : decode cX5_fill 104 = .ok (.getfield 43, 3) := by decide +kernel
theorem dX5_fill_107 : decode cX5_fill 107 = .ok (.aload_n 0, 1) := by decide +kernel
theorem dX5_fill_108 : decode cX5_fill 108 = .ok (.getfield 27, 3) := by decide +kernel
theorem dX5_fill_111 : decode cX5_fill 111 = .ok (.getfield 50, 3) := by decide +kernel
theorem dX5_fill_114 : decode cX5_fill 114 = .ok (.iload_n 2, 1) := by decide +kernel
theorem dX5_fill_115 : decode cX5_fill 115 = .ok (.iaload, 1) := by decide +kernel
theorem dX5_fill_116 : decode cX5_fill 116 = .ok (.iaload, 1) := by decide +kernel
theorem dX5_fill_117 : decode cX5_fill 117 = .ok (.istore 4, 2) := by decide +kernel
theorem dX5_fill_119 : decode cX5_fill 119 = .ok (.iload_n 1, 1) := by decide +kernel
theorem dX5_fill_120 : decode cX5_fill 120 = .ok (.iload_n 2, 1) := by decide +kernel
theorem dX5_fill_121 : decode cX5_fill 121 = .ok (.ishr, 1) := by decide +kernel
theorem dX5_fill_122 : decode cX5_fill 122 = .ok (.iconst 1, 1) := by decide +kernel
theorem dX5_fill_123 : decode cX5_fill 123 = .ok (.iand, 1) := by decide +kernel
theorem dX5_fill_124 : decode cX5_fill 124 = .ok (.ifCond .ne 16, 3) := by decide +kernel
theorem dX5_fill_127 : decode cX5_fill 127 = .ok (.iload_n 3, 1) := by decide +kernel
theorem dX5_fill_128 : decode cX5_fill 128 = .ok (.iload 4, 2) := by decide +kernel
theorem dX5_fill_130 : decode cX5_fill 130 = .ok (.if_icmp .eq 10, 3) := by decide +kernel
theorem dX5_fill_133 : decode cX5_fill 133 = .ok (.aload_n 0, 1) := by decide +kernel
theorem dX5_fill_134 : decode cX5_fill 134 = .ok (.iload_n 3, 1) := by decide +kernel
theorem dX5_fill_135 : decode cX5_fill 135 = .ok (.iload 4, 2) := by decide +kernel
theorem dX5_fill_137 : decode cX5_fill 137 = .ok (.invokevirtual 53, 3) := by decide +kernel
theorem dX5_fill_140 : decode cX5_fill 140 = .ok (.iinc 2 1, 3) := by decide +kernel
theorem dX5_fill_143 : decode cX5_fill 143 = .ok (.goto (-72), 3) := by decide +kernel
theorem dX5_fill_146 : decode cX5_fill 146 = .ok (.return_, 1) := by decide +kernel
theorem dX5_fillEdge_0 : decode cX5_fillEdge 0 = .ok (.aload_n 0, 1) := by decide +kernel
theorem dX5_fillEdge_1 : decode cX5_fillEdge 1 = .ok (.iload_n 1, 1) := by decide +kernel
theorem dX5_fillEdge_2 : decode cX5_fillEdge 2 = .ok (.invokevirtual 36, 3) := by decide +kernel
theorem dX5_fillEdge_5 : decode cX5_fillEdge 5 = .ok (.ifCond .eq 15, 3) := by decide +kernel
theorem dX5_fillEdge_8 : decode cX5_fillEdge 8 = .ok (.aload_n 0, 1) := by decide +kernel
theorem dX5_fillEdge_9 : decode cX5_fillEdge 9 = .ok (.getfield 21, 3) := by decide +kernel
theorem dX5_fillEdge_12 : decode cX5_fillEdge 12 = .ok (.iload_n 1, 1) := by decide +kernel
theorem dX5_fillEdge_13 : decode cX5_fillEdge 13 = .ok (.aaload, 1) := by decide +kernel
theorem dX5_fillEdge_14 : decode cX5_fillEdge 14 = .ok (.iload_n 1, 1) := by decide +kernel
theorem dX5_fillEdge_15 : decode cX5_fillEdge 15 = .ok (.dup2, 1) := by decide +kernel
theorem dX5_fillEdge_16 : decode cX5_fillEdge 16 = .ok (.laload, 1) := by decide +kernel
theorem dX5_fillEdge_17 : decode cX5_fillEdge 17 = .ok (.lconst 1, 1) := by decide +kernel
theorem dX5_fillEdge_18 : decode cX5_fillEdge 18 = .ok (.ladd, 1) := by decide +kernel
theorem dX5_fillEdge_19 : decode cX5_fillEdge 19 = .ok (.lastore, 1) := by decide +kernel
theorem dX5_fillEdge_20 : decode cX5_fillEdge 20 = .ok (.aload_n 0, 1) := by decide +kernel
theorem dX5_fillEdge_21 : decode cX5_fillEdge 21 = .ok (.iload_n 2, 1) := by decide +kernel
theorem dX5_fillEdge_22 : decode cX5_fillEdge 22 = .ok (.invokevirtual 36, 3) := by decide +kernel
theorem dX5_fillEdge_25 : decode cX5_fillEdge 25 = .ok (.ifCond .eq 15, 3) := by decide +kernel
theorem dX5_fillEdge_28 : decode cX5_fillEdge 28 = .ok (.aload_n 0, 1) := by decide +kernel
theorem dX5_fillEdge_29 : decode cX5_fillEdge 29 = .ok (.getfield 21, 3) := by decide +kernel
theorem dX5_fillEdge_32 : decode cX5_fillEdge 32 = .ok (.iload_n 2, 1) := by decide +kernel
theorem dX5_fillEdge_33 : decode cX5_fillEdge 33 = .ok (.aaload, 1) := by decide +kernel
theorem dX5_fillEdge_34 : decode cX5_fillEdge 34 = .ok (.iload_n 2, 1) := by decide +kernel
theorem dX5_fillEdge_35 : decode cX5_fillEdge 35 = .ok (.dup2, 1) := by decide +kernel
theorem dX5_fillEdge_36 : decode cX5_fillEdge 36 = .ok (.laload, 1) := by decide +kernel
theorem dX5_fillEdge_37 : decode cX5_fillEdge 37 = .ok (.lconst 1, 1) := by decide +kernel
theorem dX5_fillEdge_38 : decode cX5_fillEdge 38 = .ok (.ladd, 1) := by decide +kernel
theorem dX5_fillEdge_39 : decode cX5_fillEdge 39 = .ok (.lastore, 1) := by decide +kernel
theorem dX5_fillEdge_40 : decode cX5_fillEdge 40 = .ok (.aload_n 0, 1) := by decide +kernel
theorem dX5_fillEdge_41 : decode cX5_fillEdge 41 = .ok (.iload_n 1, 1) := by decide +kernel
theorem dX5_fillEdge_42 : decode cX5_fillEdge 42 = .ok (.invokevirtual 36, 3) := by decide +kernel
theorem dX5_fillEdge_45 : decode cX5_fillEdge 45 = .ok (.ifCond .eq 35, 3) := by decide +kernel
theorem dX5_fillEdge_48 : decode cX5_fillEdge 48 = .ok (.aload_n 0, 1) := by decide +kernel
theorem dX5_fillEdge_49 : decode cX5_fillEdge 49 = .ok (.iload_n 2, 1) := by decide +kernel
theorem dX5_fillEdge_50 : decode cX5_fillEdge 50 = .ok (.invokevirtual 36, 3) := by decide +kernel
theorem dX5_fillEdge_53 : decode cX5_fillEdge 53 = .ok (.ifCond .eq 27, 3) := by decide +kernel
theorem dX5_fillEdge_56 : decode cX5_fillEdge 56 = .ok (.aload_n 0, 1) := by decide +kernel
theorem dX5_fillEdge_57 : decode cX5_fillEdge 57 = .ok (.getfield 21, 3) := by decide +kernel
theorem dX5_fillEdge_60 : decode cX5_fillEdge 60 = .ok (.iload_n 1, 1) := by decide +kernel
theorem dX5_fillEdge_61 : decode cX5_fillEdge 61 = .ok (.aaload, 1) := by decide +kernel
theorem dX5_fillEdge_62 : decode cX5_fillEdge 62 = .ok (.iload_n 2, 1) := by decide +kernel
theorem dX5_fillEdge_63 : decode cX5_fillEdge 63 = .ok (.dup2, 1) := by decide +kernel
theorem dX5_fillEdge_64 : decode cX5_fillEdge 64 = .ok (.laload, 1) := by decide +kernel
theorem dX5_fillEdge_65 : decode cX5_fillEdge 65 = .ok (.lconst 1, 1) := by decide +kernel
theorem dX5_fillEdge_66 : decode cX5_fillEdge 66 = .ok (.lsub, 1) := by decide +kernel
theorem dX5_fillEdge_67 : decode cX5_fillEdge 67 = .ok (.lastore, 1) := by decide +kernel
theorem dX5_fillEdge_68 : decode cX5_fillEdge 68 = .ok (.aload_n 0, 1) := by decide +kernel
theorem dX5_fillEdge_69 : decode cX5_fillEdge 69 = .ok (.getfield 21, 3) := by decide +kernel
theorem dX5_fillEdge_72 : decode cX5_fillEdge 72 = .ok (.iload_n 2, 1) := by decide +kernel
theorem dX5_fillEdge_73 : decode cX5_fillEdge 73 = .ok (.aaload, 1) := by decide +kernel
theorem dX5_fillEdge_74 : decode cX5_fillEdge 74 = .ok (.iload_n 1, 1) := by decide +kernel
theorem dX5_fillEdge_75 : decode cX5_fillEdge 75 = .ok (.dup2, 1) := by decide +kernel
theorem dX5_fillEdge_76 : decode cX5_fillEdge 76 = .ok (.laload, 1) := by decide +kernel
theorem dX5_fillEdge_77 : decode cX5_fillEdge 77 = .ok (.lconst 1, 1) := by decide +kernel
theorem dX5_fillEdge_78 : decode cX5_fillEdge 78 = .ok (.lsub, 1) := by decide +kernel
theorem dX5_fillEdge_79 : decode cX5_fillEdge 79 = .ok (.lastore, 1) := by decide +kernel
theorem dX5_fillEdge_80 : decode cX5_fillEdge 80 = .ok (.return_, 1) := by decide +kernel
theorem dX5_isFree_0 : decode cX5_isFree 0 = .ok (.aload_n 0, 1) := by decide +kernel
theorem dX5_isFree_1 : decode cX5_isFree 1 = .ok (.getfield 27, 3) := by decide +kernel
theorem dX5_isFree_4 : decode cX5_isFree 4 = .ok (.iload_n 1, 1) := by decide +kernel
theorem dX5_isFree_5 : decode cX5_isFree 5 = .ok (.invokevirtual 57, 3) := by decide +kernel
theorem dX5_isFree_8 : decode cX5_isFree 8 = .ok (.ifCond .eq 39, 3) := by decide +kernel
theorem dX5_isFree_11 : decode cX5_isFree 11 = .ok (.aload_n 0, 1) := by decide +kernel
theorem dX5_isFree_12 : decode cX5_isFree 12 = .ok (.getfield 27, 3) := by decide +kernel
theorem dX5_isFree_15 : decode cX5_isFree 15 = .ok (.getfield 43, 3) := by decide +kernel
theorem dX5_isFree_18 : decode cX5_isFree 18 = .ok (.iload_n 1, 1) := by decide +kernel
theorem dX5_isFree_19 : decode cX5_isFree 19 = .ok (.iaload, 1) := by decide +kernel
theorem dX5_isFree_20 : decode cX5_isFree 20 = .ok (.iload_n 1, 1) := by decide +kernel
theorem dX5_isFree_21 : decode cX5_isFree 21 = .ok (.if_icmp .ne 26, 3) := by decide +kernel
theorem dX5_isFree_24 : decode cX5_isFree 24 = .ok (.iload_n 1, 1) := by decide +kernel
theorem dX5_isFree_25 : decode cX5_isFree 25 = .ok (.aload_n 0, 1) := by decide +kernel
theorem dX5_isFree_26 : decode cX5_isFree 26 = .ok (.getfield 27, 3) := by decide +kernel
theorem dX5_isFree_29 : decode cX5_isFree 29 = .ok (.getfield 43, 3) := by decide +kernel
theorem dX5_isFree_32 : decode cX5_isFree 32 = .ok (.aload_n 0, 1) := by decide +kernel
theorem dX5_isFree_33 : decode cX5_isFree 33 = .ok (.getfield 27, 3) := by decide +kernel
theorem dX5_isFree_36 : decode cX5_isFree 36 = .ok (.getfield 60, 3) := by decide +kernel
theorem dX5_isFree_39 : decode cX5_isFree 39 = .ok (.iaload, 1) := by decide +kernel
theorem dX5_isFree_40 : decode cX5_isFree 40 = .ok (.if_icmp .eq 7, 3) := by decide +kernel
theorem dX5_isFree_43 : decode cX5_isFree 43 = .ok (.iconst 1, 1) := by decide +kernel
theorem dX5_isFree_44 : decode cX5_isFree 44 = .ok (.goto 4, 3) := by decide +kernel
theorem dX5_isFree_47 : decode cX5_isFree 47 = .ok (.iconst 0, 1) := by decide +kernel
theorem dX5_isFree_48 : decode cX5_isFree 48 = .ok (.ireturn, 1) := by decide +kernel
theorem dX5_fillWhole_0 : decode cX5_fillWhole 0 = .ok (.aload_n 0, 1) := by decide +kernel
theorem dX5_fillWhole_1 : decode cX5_fillWhole 1 = .ok (.getfield 27, 3) := by decide +kernel
theorem dX5_fillWhole_4 : decode cX5_fillWhole 4 = .ok (.iconst 0, 1) := by decide +kernel
theorem dX5_fillWhole_5 : decode cX5_fillWhole 5 = .ok (.invokevirtual 63, 3) := by decide +kernel
theorem dX5_fillWhole_8 : decode cX5_fillWhole 8 = .ok (.pop, 1) := by decide +kernel
theorem dX5_fillWhole_9 : decode cX5_fillWhole 9 = .ok (.aload_n 0, 1) := by decide +kernel
theorem dX5_fillWhole_10 : decode cX5_fillWhole 10 = .ok (.iconst 0, 1) := by decide +kernel
theorem dX5_fillWhole_11 : decode cX5_fillWhole 11 = .ok (.invokevirtual 67, 3) := by decide +kernel
theorem dX5_fillWhole_14 : decode cX5_fillWhole 14 = .ok (.return_, 1) := by decide +kernel
theorem dX5_eliminate_0 : decode cX5_eliminate 0 = .ok (.lconst 1, 1) := by decide +kernel
theorem dX5_eliminate_1 : decode cX5_eliminate 1 = .ok (.lstore_n 1, 1) := by decide +kernel
theorem dX5_eliminate_2 : decode cX5_eliminate 2 = .ok (.iconst 0, 1) := by decide +kernel
theorem dX5_eliminate_3 : decode cX5_eliminate 3 = .ok (.istore_n 3, 1) := by decide +kernel
theorem dX5_eliminate_4 : decode cX5_eliminate 4 = .ok (.iload_n 3, 1) := by decide +kernel
theorem dX5_eliminate_5 : decode cX5_eliminate 5 = .ok (.aload_n 0, 1) := by decide +kernel
theorem dX5_eliminate_6 : decode cX5_eliminate 6 = .ok (.getfield 24, 3) := by decide +kernel
theorem dX5_eliminate_9 : decode cX5_eliminate 9 = .ok (.if_icmp .ge 63, 3) := by decide +kernel
theorem dX5_eliminate_12 : decode cX5_eliminate 12 = .ok (.aload_n 0, 1) := by decide +kernel
theorem dX5_eliminate_13 : decode cX5_eliminate 13 = .ok (.getfield 21, 3) := by decide +kernel
theorem dX5_eliminate_16 : decode cX5_eliminate 16 = .ok (.iload_n 3, 1) := by decide +kernel
theorem dX5_eliminate_17 : decode cX5_eliminate 17 = .ok (.aaload, 1) := by decide +kernel
theorem dX5_eliminate_18 : decode cX5_eliminate 18 = .ok (.iload_n 3, 1) := by decide +kernel
theorem dX5_eliminate_19 : decode cX5_eliminate 19 = .ok (.laload, 1) := by decide +kernel
theorem dX5_eliminate_20 : decode cX5_eliminate 20 = .ok (.lstore 4, 2) := by decide +kernel
theorem dX5_eliminate_22 : decode cX5_eliminate 22 = .ok (.lload 4, 2) := by decide +kernel
theorem dX5_eliminate_24 : decode cX5_eliminate 24 = .ok (.lconst 0, 1) := by decide +kernel
theorem dX5_eliminate_25 : decode cX5_eliminate 25 = .ok (.lcmp, 1) := by decide +kernel
theorem dX5_eliminate_26 : decode cX5_eliminate 26 = .ok (.ifCond .ne 5, 3) := by decide +kernel
theorem dX5_eliminate_29 : decode cX5_eliminate 29 = .ok (.lconst 0, 1) := by decide +kernel
theorem dX5_eliminate_30 : decode cX5_eliminate 30 = .ok (.lreturn, 1) := by decide +kernel
theorem dX5_eliminate_31 : decode cX5_eliminate 31 = .ok (.iconst 0, 1) := by decide +kernel
theorem dX5_eliminate_32 : decode cX5_eliminate 32 = .ok (.istore 6, 2) := by decide +kernel
theorem dX5_eliminate_34 : decode cX5_eliminate 34 = .ok (.iload 6, 2) := by decide +kernel
theorem dX5_eliminate_36 : decode cX5_eliminate 36 = .ok (.aload_n 0, 1) := by decide +kernel
theorem dX5_eliminate_37 : decode cX5_eliminate 37 = .ok (.getfield 24, 3) := by decide +kernel
theorem dX5_eliminate_40 : decode cX5_eliminate 40 = .ok (.if_icmp .ge 23, 3) := by decide +kernel
theorem dX5_eliminate_43 : decode cX5_eliminate 43 = .ok (.iload 6, 2) := by decide +kernel
theorem dX5_eliminate_45 : decode cX5_eliminate 45 = .ok (.iload_n 3, 1) := by decide +kernel
theorem dX5_eliminate_46 : decode cX5_eliminate 46 = .ok (.if_icmp .eq 11, 3) := by decide +kernel
theorem dX5_eliminate_49 : decode cX5_eliminate 49 = .ok (.aload_n 0, 1) := by decide +kernel
theorem dX5_eliminate_50 : decode cX5_eliminate 50 = .ok (.iload 6, 2) := by decide +kernel
theorem dX5_eliminate_52 : decode cX5_eliminate 52 = .ok (.iload_n 3, 1) := by decide +kernel
theorem dX5_eliminate_53 : decode cX5_eliminate 53 = .ok (.lload_n 1, 1) := by decide +kernel
theorem dX5_eliminate_54 : decode cX5_eliminate 54 = .ok (.invokevirtual 71, 3) := by decide +kernel
theorem dX5_eliminate_57 : decode cX5_eliminate 57 = .ok (.iinc 6 1, 3) := by decide +kernel
theorem dX5_eliminate_60 : decode cX5_eliminate 60 = .ok (.goto (-26), 3) := by decide +kernel
theorem dX5_eliminate_63 : decode cX5_eliminate 63 = .ok (.lload 4, 2) := by decide +kernel
theorem dX5_eliminate_65 : decode cX5_eliminate 65 = .ok (.lstore_n 1, 1) := by decide +kernel
theorem dX5_eliminate_66 : decode cX5_eliminate 66 = .ok (.iinc 3 1, 3) := by decide +kernel
theorem dX5_eliminate_69 : decode cX5_eliminate 69 = .ok (.goto (-65), 3) := by decide +kernel
theorem dX5_eliminate_72 : decode cX5_eliminate 72 = .ok (.lload_n 1, 1) := by decide +kernel
theorem dX5_eliminate_73 : decode cX5_eliminate 73 = .ok (.lreturn, 1) := by decide +kernel
theorem dX5_combineRows_0 : decode cX5_combineRows 0 = .ok (.lload_n 3, 1) := by decide +kernel
theorem dX5_combineRows_1 : decode cX5_combineRows 1 = .ok (.lconst 0, 1) := by decide +kernel
theorem dX5_combineRows_2 : decode cX5_combineRows 2 = .ok (.lcmp, 1) := by decide +kernel
theorem dX5_combineRows_3 : decode cX5_combineRows 3 = .ok (.ifCond .ne 4, 3) := by decide +kernel
theorem dX5_combineRows_6 : decode cX5_combineRows 6 = .ok (.return_, 1) := by decide +kernel
theorem dX5_combineRows_7 : decode cX5_combineRows 7 = .ok (.aload_n 0, 1) := by decide +kernel
theorem dX5_combineRows_8 : decode cX5_combineRows 8 = .ok (.getfield 21, 3) := by decide +kernel
theorem dX5_combineRows_11 : decode cX5_combineRows 11 = .ok (.iload_n 2, 1) := by decide +kernel
theorem dX5_combineRows_12 : decode cX5_combineRows 12 = .ok (.aaload, 1) := by decide +kernel
theorem dX5_combineRows_13 : decode cX5_combineRows 13 = .ok (.iload_n 2, 1) := by decide +kernel
theorem dX5_combineRows_14 : decode cX5_combineRows 14 = .ok (.laload, 1) := by decide +kernel
theorem dX5_combineRows_15 : decode cX5_combineRows 15 = .ok (.lstore 5, 2) := by decide +kernel
theorem dX5_combineRows_17 : decode cX5_combineRows 17 = .ok (.aload_n 0, 1) := by decide +kernel
theorem dX5_combineRows_18 : decode cX5_combineRows 18 = .ok (.getfield 21, 3) := by decide +kernel
theorem dX5_combineRows_21 : decode cX5_combineRows 21 = .ok (.iload_n 1, 1) := by decide +kernel
theorem dX5_combineRows_22 : decode cX5_combineRows 22 = .ok (.aaload, 1) := by decide +kernel
theorem dX5_combineRows_23 : decode cX5_combineRows 23 = .ok (.iload_n 2, 1) := by decide +kernel
theorem dX5_combineRows_24 : decode cX5_combineRows 24 = .ok (.laload, 1) := by decide +kernel
theorem dX5_combineRows_25 : decode cX5_combineRows 25 = .ok (.lstore 7, 2) := by decide +kernel
theorem dX5_combineRows_27 : decode cX5_combineRows 27 = .ok (.iconst 0, 1) := by decide +kernel
theorem dX5_combineRows_28 : decode cX5_combineRows 28 = .ok (.istore 9, 2) := by decide +kernel
theorem dX5_combineRows_30 : decode cX5_combineRows 30 = .ok (.iload 9, 2) := by decide +kernel
theorem dX5_combineRows_32 : decode cX5_combineRows 32 = .ok (.aload_n 0, 1) := by decide +kernel
theorem dX5_combineRows_33 : decode cX5_combineRows 33 = .ok (.getfield 24, 3) := by decide +kernel
theorem dX5_combineRows_36 : decode cX5_combineRows 36 = .ok (.if_icmp .gt 45, 3) := by decide +kernel
theorem dX5_combineRows_39 : decode cX5_combineRows 39 = .ok (.aload_n 0, 1) := by decide +kernel
theorem dX5_combineRows_40 : decode cX5_combineRows 40 = .ok (.getfield 21, 3) := by decide +kernel
theorem dX5_combineRows_43 : decode cX5_combineRows 43 = .ok (.iload_n 1, 1) := by decide +kernel
theorem dX5_combineRows_44 : decode cX5_combineRows 44 = .ok (.aaload, 1) := by decide +kernel
theorem dX5_combineRows_45 : decode cX5_combineRows 45 = .ok (.iload 9, 2) := by decide +kernel
theorem dX5_combineRows_47 : decode cX5_combineRows 47 = .ok (.lload 5, 2) := by decide +kernel
theorem dX5_combineRows_49 : decode cX5_combineRows 49 = .ok (.aload_n 0, 1) := by decide +kernel
theorem dX5_combineRows_50 : decode cX5_combineRows 50 = .ok (.getfield 21, 3) := by decide +kernel
theorem dX5_combineRows_53 : decode cX5_combineRows 53 = .ok (.iload_n 1, 1) := by decide +kernel
theorem dX5_combineRows_54 : decode cX5_combineRows 54 = .ok (.aaload, 1) := by decide +kernel
theorem dX5_combineRows_55 : decode cX5_combineRows 55 = .ok (.iload 9, 2) := by decide +kernel
theorem dX5_combineRows_57 : decode cX5_combineRows 57 = .ok (.laload, 1) := by decide +kernel
theorem dX5_combineRows_58 : decode cX5_combineRows 58 = .ok (.lmul, 1) := by decide +kernel
theorem dX5_combineRows_59 : decode cX5_combineRows 59 = .ok (.lload 7, 2) := by decide +kernel
theorem dX5_combineRows_61 : decode cX5_combineRows 61 = .ok (.aload_n 0, 1) := by decide +kernel
theorem dX5_combineRows_62 : decode cX5_combineRows 62 = .ok (.getfield 21, 3) := by decide +kernel
theorem dX5_combineRows_65 : decode cX5_combineRows 65 = .ok (.iload_n 2, 1) := by decide +kernel
theorem dX5_combineRows_66 : decode cX5_combineRows 66 = .ok (.aaload, 1) := by decide +kernel
theorem dX5_combineRows_67 : decode cX5_combineRows 67 = .ok (.iload 9, 2) := by decide +kernel
theorem dX5_combineRows_69 : decode cX5_combineRows 69 = .ok (.laload, 1) := by decide +kernel
theorem dX5_combineRows_70 : decode cX5_combineRows 70 = .ok (.lmul, 1) := by decide +kernel
theorem dX5_combineRows_71 : decode cX5_combineRows 71 = .ok (.lsub, 1) := by decide +kernel
theorem dX5_combineRows_72 : decode cX5_combineRows 72 = .ok (.lload_n 3, 1) := by decide +kernel
theorem dX5_combineRows_73 : decode cX5_combineRows 73 = .ok (.ldiv, 1) := by decide +kernel
theorem dX5_combineRows_74 : decode cX5_combineRows 74 = .ok (.lastore, 1) := by decide +kernel
theorem dX5_combineRows_75 : decode cX5_combineRows 75 = .ok (.iinc 9 1, 3) := by decide +kernel
theorem dX5_combineRows_78 : decode cX5_combineRows 78 = .ok (.goto (-48), 3) := by decide +kernel
theorem dX5_combineRows_81 : decode cX5_combineRows 81 = .ok (.return_, 1) := by decide +kernel
theorem dX5_orderOf_0 : decode cX5_orderOf 0 = .ok (.aload_n 0, 1) := by decide +kernel
theorem dX5_orderOf_1 : decode cX5_orderOf 1 = .ok (.invokevirtual 75, 3) := by decide +kernel
theorem dX5_orderOf_4 : decode cX5_orderOf 4 = .ok (.iconst 0, 1) := by decide +kernel
theorem dX5_orderOf_5 : decode cX5_orderOf 5 = .ok (.istore_n 2, 1) := by decide +kernel
theorem dX5_orderOf_6 : decode cX5_orderOf 6 = .ok (.iload_n 2, 1) := by decide +kernel
theorem dX5_orderOf_7 : decode cX5_orderOf 7 = .ok (.aload_n 0, 1) := by decide +kernel
theorem dX5_orderOf_8 : decode cX5_orderOf 8 = .ok (.getfield 24, 3) := by decide +kernel
theorem dX5_orderOf_11 : decode cX5_orderOf 11 = .ok (.if_icmp .ge 24, 3) := by decide +kernel
theorem dX5_orderOf_14 : decode cX5_orderOf 14 = .ok (.aload_n 0, 1) := by decide +kernel
theorem dX5_orderOf_15 : decode cX5_orderOf 15 = .ok (.getfield 21, 3) := by decide +kernel
theorem dX5_orderOf_18 : decode cX5_orderOf 18 = .ok (.iload_n 2, 1) := by decide +kernel
theorem dX5_orderOf_19 : decode cX5_orderOf 19 = .ok (.aaload, 1) := by decide +kernel
theorem dX5_orderOf_20 : decode cX5_orderOf 20 = .ok (.aload_n 0, 1) := by decide +kernel
theorem dX5_orderOf_21 : decode cX5_orderOf 21 = .ok (.getfield 24, 3) := by decide +kernel
theorem dX5_orderOf_24 : decode cX5_orderOf 24 = .ok (.aload_n 1, 1) := by decide +kernel
theorem dX5_orderOf_25 : decode cX5_orderOf 25 = .ok (.iload_n 2, 1) := by decide +kernel
theorem dX5_orderOf_26 : decode cX5_orderOf 26 = .ok (.iaload, 1) := by decide +kernel
theorem dX5_orderOf_27 : decode cX5_orderOf 27 = .ok (.i2l, 1) := by decide +kernel
theorem dX5_orderOf_28 : decode cX5_orderOf 28 = .ok (.lastore, 1) := by decide +kernel
theorem dX5_orderOf_29 : decode cX5_orderOf 29 = .ok (.iinc 2 1, 3) := by decide +kernel
theorem dX5_orderOf_32 : decode cX5_orderOf 32 = .ok (.goto (-26), 3) := by decide +kernel
theorem dX5_orderOf_35 : decode cX5_orderOf 35 = .ok (.aload_n 0, 1) := by decide +kernel
theorem dX5_orderOf_36 : decode cX5_orderOf 36 = .ok (.invokevirtual 78, 3) := by decide +kernel
theorem dX5_orderOf_39 : decode cX5_orderOf 39 = .ok (.lstore_n 2, 1) := by decide +kernel
theorem dX5_orderOf_40 : decode cX5_orderOf 40 = .ok (.lload_n 2, 1) := by decide +kernel
theorem dX5_orderOf_41 : decode cX5_orderOf 41 = .ok (.lstore 4, 2) := by decide +kernel
theorem dX5_orderOf_43 : decode cX5_orderOf 43 = .ok (.iconst 0, 1) := by decide +kernel
theorem dX5_orderOf_44 : decode cX5_orderOf 44 = .ok (.istore 6, 2) := by decide +kernel
theorem dX5_orderOf_46 : decode cX5_orderOf 46 = .ok (.iload 6, 2) := by decide +kernel
theorem dX5_orderOf_48 : decode cX5_orderOf 48 = .ok (.aload_n 0, 1) := by decide +kernel
theorem dX5_orderOf_49 : decode cX5_orderOf 49 = .ok (.getfield 24, 3) := by decide +kernel
theorem dX5_orderOf_52 : decode cX5_orderOf 52 = .ok (.if_icmp .ge 28, 3) := by decide +kernel
theorem dX5_orderOf_55 : decode cX5_orderOf 55 = .ok (.lload 4, 2) := by decide +kernel
theorem dX5_orderOf_57 : decode cX5_orderOf 57 = .ok (.aload_n 0, 1) := by decide +kernel
theorem dX5_orderOf_58 : decode cX5_orderOf 58 = .ok (.getfield 21, 3) := by decide +kernel
theorem dX5_orderOf_61 : decode cX5_orderOf 61 = .ok (.iload 6, 2) := by decide +kernel
theorem dX5_orderOf_63 : decode cX5_orderOf 63 = .ok (.aaload, 1) := by decide +kernel
theorem dX5_orderOf_64 : decode cX5_orderOf 64 = .ok (.aload_n 0, 1) := by decide +kernel
theorem dX5_orderOf_65 : decode cX5_orderOf 65 = .ok (.getfield 24, 3) := by decide +kernel
theorem dX5_orderOf_68 : decode cX5_orderOf 68 = .ok (.laload, 1) := by decide +kernel
theorem dX5_orderOf_69 : decode cX5_orderOf 69 = .ok (.invokestatic 82, 3) := by decide +kernel
theorem dX5_orderOf_72 : decode cX5_orderOf 72 = .ok (.lstore 4, 2) := by decide +kernel
theorem dX5_orderOf_74 : decode cX5_orderOf 74 = .ok (.iinc 6 1, 3) := by decide +kernel
theorem dX5_orderOf_77 : decode cX5_orderOf 77 = .ok (.goto (-31), 3) := by decide +kernel
theorem dX5_orderOf_80 : decode cX5_orderOf 80 = .ok (.lload 4, 2) := by decide +kernel
theorem dX5_orderOf_82 : decode cX5_orderOf 82 = .ok (.lconst 0, 1) := by decide +kernel
theorem dX5_orderOf_83 : decode cX5_orderOf 83 = .ok (.lcmp, 1) := by decide +kernel
theorem dX5_orderOf_84 : decode cX5_orderOf 84 = .ok (.ifCond .ne 7, 3) := by decide +kernel
theorem dX5_orderOf_87 : decode cX5_orderOf 87 = .ok (.lconst 0, 1) := by decide +kernel
theorem dX5_orderOf_88 : decode cX5_orderOf 88 = .ok (.goto 7, 3) := by decide +kernel
theorem dX5_orderOf_91 : decode cX5_orderOf 91 = .ok (.lload_n 2, 1) := by decide +kernel
theorem dX5_orderOf_92 : decode cX5_orderOf 92 = .ok (.lload 4, 2) := by decide +kernel
theorem dX5_orderOf_94 : decode cX5_orderOf 94 = .ok (.ldiv, 1) := by decide +kernel
theorem dX5_orderOf_95 : decode cX5_orderOf 95 = .ok (.lreturn, 1) := by decide +kernel
theorem dX5_findFactors_0 : decode cX5_findFactors 0 = .ok (.aload_n 0, 1) := by decide +kernel
theorem dX5_findFactors_1 : decode cX5_findFactors 1 = .ok (.iconst 0, 1) := by decide +kernel
theorem dX5_findFactors_2 : decode cX5_findFactors 2 = .ok (.putfield 15, 3) := by decide +kernel
theorem dX5_findFactors_5 : decode cX5_findFactors 5 = .ok (.aload_n 0, 1) := by decide +kernel
theorem dX5_findFactors_6 : decode cX5_findFactors 6 = .ok (.invokevirtual 75, 3) := by decide +kernel
theorem dX5_findFactors_9 : decode cX5_findFactors 9 = .ok (.aload_n 0, 1) := by decide +kernel
theorem dX5_findFactors_10 : decode cX5_findFactors 10 = .ok (.invokevirtual 78, 3) := by decide +kernel
theorem dX5_findFactors_13 : decode cX5_findFactors 13 = .ok (.lstore_n 1, 1) := by decide +kernel
theorem dX5_findFactors_14 : decode cX5_findFactors 14 = .ok (.lload_n 1, 1) := by decide +kernel
theorem dX5_findFactors_15 : decode cX5_findFactors 15 = .ok (.lconst 0, 1) := by decide +kernel
theorem dX5_findFactors_16 : decode cX5_findFactors 16 = .ok (.lcmp, 1) := by decide +kernel
theorem dX5_findFactors_17 : decode cX5_findFactors 17 = .ok (.ifCond .gt 4, 3) := by decide +kernel
theorem dX5_findFactors_20 : decode cX5_findFactors 20 = .ok (.return_, 1) := by decide +kernel
theorem dX5_findFactors_21 : decode cX5_findFactors 21 = .ok (.aload_n 0, 1) := by decide +kernel
theorem dX5_findFactors_22 : decode cX5_findFactors 22 = .ok (.invokevirtual 75, 3) := by decide +kernel
theorem dX5_findFactors_25 : decode cX5_findFactors 25 = .ok (.iconst 0, 1) := by decide +kernel
theorem dX5_findFactors_26 : decode cX5_findFactors 26 = .ok (.istore_n 3, 1) := by decide +kernel
theorem dX5_findFactors_27 : decode cX5_findFactors 27 = .ok (.iload_n 3, 1) := by decide +kernel
theorem dX5_findFactors_28 : decode cX5_findFactors 28 = .ok (.aload_n 0, 1) := by decide +kernel
theorem dX5_findFactors_29 : decode cX5_findFactors 29 = .ok (.getfield 24, 3) := by decide +kernel
theorem dX5_findFactors_32 : decode cX5_findFactors 32 = .ok (.if_icmp .ge 49, 3) := by decide +kernel
theorem dX5_findFactors_35 : decode cX5_findFactors 35 = .ok (.iconst 0, 1) := by decide +kernel
theorem dX5_findFactors_36 : decode cX5_findFactors 36 = .ok (.istore 4, 2) := by decide +kernel
theorem dX5_findFactors_38 : decode cX5_findFactors 38 = .ok (.iload 4, 2) := by decide +kernel
theorem dX5_findFactors_40 : decode cX5_findFactors 40 = .ok (.aload_n 0, 1) := by decide +kernel
theorem dX5_findFactors_41 : decode cX5_findFactors 41 = .ok (.getfield 24, 3) := by decide +kernel
theorem dX5_findFactors_44 : decode cX5_findFactors 44 = .ok (.if_icmp .ge 31, 3) := by decide +kernel
theorem dX5_findFactors_47 : decode cX5_findFactors 47 = .ok (.aload_n 0, 1) := by decide +kernel
theorem dX5_findFactors_48 : decode cX5_findFactors 48 = .ok (.getfield 21, 3) := by decide +kernel
theorem dX5_findFactors_51 : decode cX5_findFactors 51 = .ok (.iload_n 3, 1) := by decide +kernel
theorem dX5_findFactors_52 : decode cX5_findFactors 52 = .ok (.aaload, 1) := by decide +kernel
theorem dX5_findFactors_53 : decode cX5_findFactors 53 = .ok (.iload 4, 2) := by decide +kernel
theorem dX5_findFactors_55 : decode cX5_findFactors 55 = .ok (.aload_n 0, 1) := by decide +kernel
theorem dX5_findFactors_56 : decode cX5_findFactors 56 = .ok (.getfield 21, 3) := by decide +kernel
theorem dX5_findFactors_59 : decode cX5_findFactors 59 = .ok (.iload_n 3, 1) := by decide +kernel
theorem dX5_findFactors_60 : decode cX5_findFactors 60 = .ok (.aaload, 1) := by decide +kernel
theorem dX5_findFactors_61 : decode cX5_findFactors 61 = .ok (.iload 4, 2) := by decide +kernel
theorem dX5_findFactors_63 : decode cX5_findFactors 63 = .ok (.laload, 1) := by decide +kernel
theorem dX5_findFactors_64 : decode cX5_findFactors 64 = .ok (.lload_n 1, 1) := by decide +kernel
theorem dX5_findFactors_65 : decode cX5_findFactors 65 = .ok (.invokestatic 86, 3) := by decide +kernel
theorem dX5_findFactors_68 : decode cX5_findFactors 68 = .ok (.lastore, 1) := by decide +kernel
theorem dX5_findFactors_69 : decode cX5_findFactors 69 = .ok (.iinc 4 1, 3) := by decide +kernel
theorem dX5_findFactors_72 : decode cX5_findFactors 72 = .ok (.goto (-34), 3) := by decide +kernel
theorem dX5_findFactors_75 : decode cX5_findFactors 75 = .ok (.iinc 3 1, 3) := by decide +kernel
theorem dX5_findFactors_78 : decode cX5_findFactors 78 = .ok (.goto (-51), 3) := by decide +kernel
theorem dX5_findFactors_81 : decode cX5_findFactors 81 = .ok (.iconst 0, 1) := by decide +kernel
theorem dX5_findFactors_82 : decode cX5_findFactors 82 = .ok (.istore_n 3, 1) := by decide +kernel
theorem dX5_findFactors_83 : decode cX5_findFactors 83 = .ok (.iload_n 3, 1) := by decide +kernel
theorem dX5_findFactors_84 : decode cX5_findFactors 84 = .ok (.aload_n 0, 1) := by decide +kernel
theorem dX5_findFactors_85 : decode cX5_findFactors 85 = .ok (.getfield 24, 3) := by decide +kernel
theorem dX5_findFactors_88 : decode cX5_findFactors 88 = .ok (.if_icmp .ge 57, 3) := by decide +kernel
theorem dX5_findFactors_91 : decode cX5_findFactors 91 = .ok (.aload_n 0, 1) := by decide +kernel
theorem dX5_findFactors_92 : decode cX5_findFactors 92 = .ok (.iload_n 3, 1) := by decide +kernel
theorem dX5_findFactors_93 : decode cX5_findFactors 93 = .ok (.lload_n 1, 1) := by decide +kernel
theorem dX5_findFactors_94 : decode cX5_findFactors 94 = .ok (.invokevirtual 91, 3) := by decide +kernel
theorem dX5_findFactors_97 : decode cX5_findFactors 97 = .ok (.aload_n 0, 1) := by decide +kernel
theorem dX5_findFactors_98 : decode cX5_findFactors 98 = .ok (.getfield 21, 3) := by decide +kernel
theorem dX5_findFactors_101 : decode cX5_findFactors 101 = .ok (.iload_n 3, 1) := by decide +kernel
theorem dX5_findFactors_102 : decode cX5_findFactors 102 = .ok (.aaload, 1) := by decide +kernel
theorem dX5_findFactors_103 : decode cX5_findFactors 103 = .ok (.iload_n 3, 1) := by decide +kernel
theorem dX5_findFactors_104 : decode cX5_findFactors 104 = .ok (.laload, 1) := by decide +kernel
theorem dX5_findFactors_105 : decode cX5_findFactors 105 = .ok (.lload_n 1, 1) := by decide +kernel
theorem dX5_findFactors_106 : decode cX5_findFactors 106 = .ok (.invokestatic 82, 3) := by decide +kernel
theorem dX5_findFactors_109 : decode cX5_findFactors 109 = .ok (.lstore 4, 2) := by decide +kernel
theorem dX5_findFactors_111 : decode cX5_findFactors 111 = .ok (.lload 4, 2) := by decide +kernel
theorem dX5_findFactors_113 : decode cX5_findFactors 113 = .ok (.lconst 1, 1) := by decide +kernel
theorem dX5_findFactors_114 : decode cX5_findFactors 114 = .ok (.lcmp, 1) := by decide +kernel
theorem dX5_findFactors_115 : decode cX5_findFactors 115 = .ok (.ifCond .le 24, 3) := by decide +kernel
theorem dX5_findFactors_118 : decode cX5_findFactors 118 = .ok (.aload_n 0, 1) := by decide +kernel
theorem dX5_findFactors_119 : decode cX5_findFactors 119 = .ok (.getfield 9, 3) := by decide +kernel
theorem dX5_findFactors_122 : decode cX5_findFactors 122 = .ok (.aload_n 0, 1) := by decide +kernel
theorem dX5_findFactors_123 : decode cX5_findFactors 123 = .ok (.getfield 15, 3) := by decide +kernel
theorem dX5_findFactors_126 : decode cX5_findFactors 126 = .ok (.lload 4, 2) := by decide +kernel
theorem dX5_findFactors_128 : decode cX5_findFactors 128 = .ok (.lastore, 1) := by decide +kernel
theorem dX5_findFactors_129 : decode cX5_findFactors 129 = .ok (.aload_n 0, 1) := by decide +kernel
theorem dX5_findFactors_130 : decode cX5_findFactors 130 = .ok (.dup, 1) := by decide +kernel
theorem dX5_findFactors_131 : decode cX5_findFactors 131 = .ok (.getfield 15, 3) := by decide +kernel
theorem dX5_findFactors_134 : decode cX5_findFactors 134 = .ok (.iconst 1, 1) := by decide +kernel
theorem dX5_findFactors_135 : decode cX5_findFactors 135 = .ok (.iadd, 1) := by decide +kernel
theorem dX5_findFactors_136 : decode cX5_findFactors 136 = .ok (.putfield 15, 3) := by decide +kernel
theorem dX5_findFactors_139 : decode cX5_findFactors 139 = .ok (.iinc 3 1, 3) := by decide +kernel
theorem dX5_findFactors_142 : decode cX5_findFactors 142 = .ok (.goto (-59), 3) := by decide +kernel
theorem dX5_findFactors_145 : decode cX5_findFactors 145 = .ok (.return_, 1) := by decide +kernel
theorem dX5_clearAround_0 : decode cX5_clearAround 0 = .ok (.iconst 0, 1) := by decide +kernel
theorem dX5_clearAround_1 : decode cX5_clearAround 1 = .ok (.istore 4, 2) := by decide +kernel
theorem dX5_clearAround_3 : decode cX5_clearAround 3 = .ok (.iload 4, 2) := by decide +kernel
theorem dX5_clearAround_5 : decode cX5_clearAround 5 = .ok (.ldc 95, 2) := by decide +kernel
theorem dX5_clearAround_7 : decode cX5_clearAround 7 = .ok (.if_icmp .ge 54, 3) := by decide +kernel
theorem dX5_clearAround_10 : decode cX5_clearAround 10 = .ok (.aload_n 0, 1) := by decide +kernel
theorem dX5_clearAround_11 : decode cX5_clearAround 11 = .ok (.iload_n 1, 1) := by decide +kernel
theorem dX5_clearAround_12 : decode cX5_clearAround 12 = .ok (.invokevirtual 96, 3) := by decide +kernel
theorem dX5_clearAround_15 : decode cX5_clearAround 15 = .ok (.ifCond .ne 4, 3) := by decide +kernel
theorem dX5_clearAround_18 : decode cX5_clearAround 18 = .ok (.return_, 1) := by decide +kernel
theorem dX5_clearAround_19 : decode cX5_clearAround 19 = .ok (.aload_n 0, 1) := by decide +kernel
theorem dX5_clearAround_20 : decode cX5_clearAround 20 = .ok (.iload_n 1, 1) := by decide +kernel
theorem dX5_clearAround_21 : decode cX5_clearAround 21 = .ok (.lload_n 2, 1) := by decide +kernel
theorem dX5_clearAround_22 : decode cX5_clearAround 22 = .ok (.invokevirtual 99, 3) := by decide +kernel
theorem dX5_clearAround_25 : decode cX5_clearAround 25 = .ok (.istore 5, 2) := by decide +kernel
theorem dX5_clearAround_27 : decode cX5_clearAround 27 = .ok (.aload_n 0, 1) := by decide +kernel
theorem dX5_clearAround_28 : decode cX5_clearAround 28 = .ok (.iload_n 1, 1) := by decide +kernel
theorem dX5_clearAround_29 : decode cX5_clearAround 29 = .ok (.lload_n 2, 1) := by decide +kernel
theorem dX5_clearAround_30 : decode cX5_clearAround 30 = .ok (.invokevirtual 103, 3) := by decide +kernel
theorem dX5_clearAround_33 : decode cX5_clearAround 33 = .ok (.istore 6, 2) := by decide +kernel
theorem dX5_clearAround_35 : decode cX5_clearAround 35 = .ok (.iload 5, 2) := by decide +kernel
theorem dX5_clearAround_37 : decode cX5_clearAround 37 = .ok (.ifCond .eq 18, 3) := by decide +kernel
theorem dX5_clearAround_40 : decode cX5_clearAround 40 = .ok (.iload 6, 2) := by decide +kernel
theorem dX5_clearAround_42 : decode cX5_clearAround 42 = .ok (.ifCond .eq 13, 3) := by decide +kernel
theorem dX5_clearAround_45 : decode cX5_clearAround 45 = .ok (.aload_n 0, 1) := by decide +kernel
theorem dX5_clearAround_46 : decode cX5_clearAround 46 = .ok (.iload_n 1, 1) := by decide +kernel
theorem dX5_clearAround_47 : decode cX5_clearAround 47 = .ok (.lload_n 2, 1) := by decide +kernel
theorem dX5_clearAround_48 : decode cX5_clearAround 48 = .ok (.invokevirtual 106, 3) := by decide +kernel
theorem dX5_clearAround_51 : decode cX5_clearAround 51 = .ok (.ifCond .ne 4, 3) := by decide +kernel
theorem dX5_clearAround_54 : decode cX5_clearAround 54 = .ok (.return_, 1) := by decide +kernel
theorem dX5_clearAround_55 : decode cX5_clearAround 55 = .ok (.iinc 4 1, 3) := by decide +kernel
theorem dX5_clearAround_58 : decode cX5_clearAround 58 = .ok (.goto (-55), 3) := by decide +kernel
theorem dX5_clearAround_61 : decode cX5_clearAround 61 = .ok (.return_, 1) := by decide +kernel
theorem dX5_bringLeastToCorner_0 : decode cX5_bringLeastToCorner 0 = .ok (.iconst (-1), 1) := by decide +kernel
theorem dX5_bringLeastToCorner_1 : decode cX5_bringLeastToCorner 1 = .ok (.istore_n 2, 1) := by decide +kernel
theorem dX5_bringLeastToCorner_2 : decode cX5_bringLeastToCorner 2 = .ok (.iconst (-1), 1) := by decide +kernel
theorem dX5_bringLeastToCorner_3 : decode cX5_bringLeastToCorner 3 = .ok (.istore_n 3, 1) := by decide +kernel
theorem dX5_bringLeastToCorner_4 : decode cX5_bringLeastToCorner 4 = .ok (.iload_n 1, 1) := by decide +kernel
theorem dX5_bringLeastToCorner_5 : decode cX5_bringLeastToCorner 5 = .ok (.istore 4, 2) := by decide +kernel
theorem dX5_bringLeastToCorner_7 : decode cX5_bringLeastToCorner 7 = .ok (.iload 4, 2) := by decide +kernel
theorem dX5_bringLeastToCorner_9 : decode cX5_bringLeastToCorner 9 = .ok (.aload_n 0, 1) := by decide +kernel
theorem dX5_bringLeastToCorner_10 : decode cX5_bringLeastToCorner 10 = .ok (.getfield 24, 3) := by decide +kernel
theorem dX5_bringLeastToCorner_13 : decode cX5_bringLeastToCorner 13 = .ok (.if_icmp .ge 86, 3) := by decide +kernel
theorem dX5_bringLeastToCorner_16 : decode cX5_bringLeastToCorner 16 = .ok (.iload_n 1, 1) := by decide +kernel
theorem dX5_bringLeastToCorner_17 : decode cX5_bringLeastToCorner 17 = .ok (.istore 5, 2) := by decide +kernel
theorem dX5_bringLeastToCorner_19 : decode cX5_bringLeastToCorner 19 = .ok (.iload 5, 2) := by decide +kernel
theorem dX5_bringLeastToCorner_21 : decode cX5_bringLeastToCorner 21 = .ok (.aload_n 0, 1) := by decide +kernel
theorem dX5_bringLeastToCorner_22 : decode cX5_bringLeastToCorner 22 = .ok (.getfield 24, 3) := by decide +kernel
theorem dX5_bringLeastToCorner_25 : decode cX5_bringLeastToCorner 25 = .ok (.if_icmp .ge 68, 3) := by decide +kernel
theorem dX5_bringLeastToCorner_28 : decode cX5_bringLeastToCorner 28 = .ok (.iload_n 2, 1) := by decide +kernel
theorem dX5_bringLeastToCorner_29 : decode cX5_bringLeastToCorner 29 = .ok (.ifCond .lt 25, 3) := by decide +kernel
theorem dX5_bringLeastToCorner_32 : decode cX5_bringLeastToCorner 32 = .ok (.aload_n 0, 1) := by decide +kernel
theorem dX5_bringLeastToCorner_33 : decode cX5_bringLeastToCorner 33 = .ok (.getfield 21, 3) := by decide +kernel
theorem dX5_bringLeastToCorner_36 : decode cX5_bringLeastToCorner 36 = .ok (.iload 4, 2) := by decide +kernel
theorem dX5_bringLeastToCorner_38 : decode cX5_bringLeastToCorner 38 = .ok (.aaload, 1) := by decide +kernel
theorem dX5_bringLeastToCorner_39 : decode cX5_bringLeastToCorner 39 = .ok (.iload 5, 2) := by decide +kernel
theorem dX5_bringLeastToCorner_41 : decode cX5_bringLeastToCorner 41 = .ok (.laload, 1) := by decide +kernel
theorem dX5_bringLeastToCorner_42 : decode cX5_bringLeastToCorner 42 = .ok (.aload_n 0, 1) := by decide +kernel
theorem dX5_bringLeastToCorner_43 : decode cX5_bringLeastToCorner 43 = .ok (.getfield 21, 3) := by decide +kernel
theorem dX5_bringLeastToCorner_46 : decode cX5_bringLeastToCorner 46 = .ok (.iload_n 2, 1) := by decide +kernel
theorem dX5_bringLeastToCorner_47 : decode cX5_bringLeastToCorner 47 = .ok (.aaload, 1) := by decide +kernel
theorem dX5_bringLeastToCorner_48 : decode cX5_bringLeastToCorner 48 = .ok (.iload_n 3, 1) := by decide +kernel
theorem dX5_bringLeastToCorner_49 : decode cX5_bringLeastToCorner 49 = .ok (.laload, 1) := by decide +kernel
theorem dX5_bringLeastToCorner_50 : decode cX5_bringLeastToCorner 50 = .ok (.lcmp, 1) := by decide +kernel
theorem dX5_bringLeastToCorner_51 : decode cX5_bringLeastToCorner 51 = .ok (.ifCond .ge 7, 3) := by decide +kernel
theorem dX5_bringLeastToCorner_54 : decode cX5_bringLeastToCorner 54 = .ok (.iconst 1, 1) := by decide +kernel
theorem dX5_bringLeastToCorner_55 : decode cX5_bringLeastToCorner 55 = .ok (.goto 4, 3) := by decide +kernel
theorem dX5_bringLeastToCorner_58 : decode cX5_bringLeastToCorner 58 = .ok (.iconst 0, 1) := by decide +kernel
theorem dX5_bringLeastToCorner_59 : decode cX5_bringLeastToCorner 59 = .ok (.istore 6, 2) := by decide +kernel
theorem dX5_bringLeastToCorner_61 : decode cX5_bringLeastToCorner 61 = .ok (.aload_n 0, 1) := by decide +kernel
theorem dX5_bringLeastToCorner_62 : decode cX5_bringLeastToCorner 62 = .ok (.getfield 21, 3) := by decide +kernel
theorem dX5_bringLeastToCorner_65 : decode cX5_bringLeastToCorner 65 = .ok (.iload 4, 2) := by decide +kernel
theorem dX5_bringLeastToCorner_67 : decode cX5_bringLeastToCorner 67 = .ok (.aaload, 1) := by decide +kernel
theorem dX5_bringLeastToCorner_68 : decode cX5_bringLeastToCorner 68 = .ok (.iload 5, 2) := by decide +kernel
theorem dX5_bringLeastToCorner_70 : decode cX5_bringLeastToCorner 70 = .ok (.laload, 1) := by decide +kernel
theorem dX5_bringLeastToCorner_71 : decode cX5_bringLeastToCorner 71 = .ok (.lconst 0, 1) := by decide +kernel
theorem dX5_bringLeastToCorner_72 : decode cX5_bringLeastToCorner 72 = .ok (.lcmp, 1) := by decide +kernel
theorem dX5_bringLeastToCorner_73 : decode cX5_bringLeastToCorner 73 = .ok (.ifCond .eq 14, 3) := by decide +kernel
theorem dX5_bringLeastToCorner_76 : decode cX5_bringLeastToCorner 76 = .ok (.iload 6, 2) := by decide +kernel
theorem dX5_bringLeastToCorner_78 : decode cX5_bringLeastToCorner 78 = .ok (.ifCond .eq 9, 3) := by decide +kernel
theorem dX5_bringLeastToCorner_81 : decode cX5_bringLeastToCorner 81 = .ok (.iload 4, 2) := by decide +kernel
theorem dX5_bringLeastToCorner_83 : decode cX5_bringLeastToCorner 83 = .ok (.istore_n 2, 1) := by decide +kernel
theorem dX5_bringLeastToCorner_84 : decode cX5_bringLeastToCorner 84 = .ok (.iload 5, 2) := by decide +kernel
theorem dX5_bringLeastToCorner_86 : decode cX5_bringLeastToCorner 86 = .ok (.istore_n 3, 1) := by decide +kernel
theorem dX5_bringLeastToCorner_87 : decode cX5_bringLeastToCorner 87 = .ok (.iinc 5 1, 3) := by decide +kernel
theorem dX5_bringLeastToCorner_90 : decode cX5_bringLeastToCorner 90 = .ok (.goto (-71), 3) := by decide +kernel
theorem dX5_bringLeastToCorner_93 : decode cX5_bringLeastToCorner 93 = .ok (.iinc 4 1, 3) := by decide +kernel
theorem dX5_bringLeastToCorner_96 : decode cX5_bringLeastToCorner 96 = .ok (.goto (-89), 3) := by decide +kernel
theorem dX5_bringLeastToCorner_99 : decode cX5_bringLeastToCorner 99 = .ok (.iload_n 2, 1) := by decide +kernel
theorem dX5_bringLeastToCorner_100 : decode cX5_bringLeastToCorner 100 = .ok (.ifCond .ge 5, 3) := by decide +kernel
theorem dX5_bringLeastToCorner_103 : decode cX5_bringLeastToCorner 103 = .ok (.iconst 0, 1) := by decide +kernel
theorem dX5_bringLeastToCorner_104 : decode cX5_bringLeastToCorner 104 = .ok (.ireturn, 1) := by decide +kernel
theorem dX5_bringLeastToCorner_105 : decode cX5_bringLeastToCorner 105 = .ok (.aload_n 0, 1) := by decide +kernel
theorem dX5_bringLeastToCorner_106 : decode cX5_bringLeastToCorner 106 = .ok (.iload_n 1, 1) := by decide +kernel
theorem dX5_bringLeastToCorner_107 : decode cX5_bringLeastToCorner 107 = .ok (.iload_n 2, 1) := by decide +kernel
theorem dX5_bringLeastToCorner_108 : decode cX5_bringLeastToCorner 108 = .ok (.invokevirtual 109, 3) := by decide +kernel
theorem dX5_bringLeastToCorner_111 : decode cX5_bringLeastToCorner 111 = .ok (.aload_n 0, 1) := by decide +kernel
theorem dX5_bringLeastToCorner_112 : decode cX5_bringLeastToCorner 112 = .ok (.iload_n 1, 1) := by decide +kernel
theorem dX5_bringLeastToCorner_113 : decode cX5_bringLeastToCorner 113 = .ok (.iload_n 3, 1) := by decide +kernel
theorem dX5_bringLeastToCorner_114 : decode cX5_bringLeastToCorner 114 = .ok (.invokevirtual 112, 3) := by decide +kernel
theorem dX5_bringLeastToCorner_117 : decode cX5_bringLeastToCorner 117 = .ok (.iconst 1, 1) := by decide +kernel
theorem dX5_bringLeastToCorner_118 : decode cX5_bringLeastToCorner 118 = .ok (.ireturn, 1) := by decide +kernel
theorem dX5_swapRows_0 : decode cX5_swapRows 0 = .ok (.iconst 0, 1) := by decide +kernel
theorem dX5_swapRows_1 : decode cX5_swapRows 1 = .ok (.istore_n 3, 1) := by decide +kernel
theorem dX5_swapRows_2 : decode cX5_swapRows 2 = .ok (.iload_n 3, 1) := by decide +kernel
theorem dX5_swapRows_3 : decode cX5_swapRows 3 = .ok (.aload_n 0, 1) := by decide +kernel
theorem dX5_swapRows_4 : decode cX5_swapRows 4 = .ok (.getfield 24, 3) := by decide +kernel
theorem dX5_swapRows_7 : decode cX5_swapRows 7 = .ok (.if_icmp .ge 45, 3) := by decide +kernel
theorem dX5_swapRows_10 : decode cX5_swapRows 10 = .ok (.aload_n 0, 1) := by decide +kernel
theorem dX5_swapRows_11 : decode cX5_swapRows 11 = .ok (.getfield 21, 3) := by decide +kernel
theorem dX5_swapRows_14 : decode cX5_swapRows 14 = .ok (.iload_n 1, 1) := by decide +kernel
theorem dX5_swapRows_15 : decode cX5_swapRows 15 = .ok (.aaload, 1) := by decide +kernel
theorem dX5_swapRows_16 : decode cX5_swapRows 16 = .ok (.iload_n 3, 1) := by decide +kernel
theorem dX5_swapRows_17 : decode cX5_swapRows 17 = .ok (.laload, 1) := by decide +kernel
theorem dX5_swapRows_18 : decode cX5_swapRows 18 = .ok (.lstore 4, 2) := by decide +kernel
theorem dX5_swapRows_20 : decode cX5_swapRows 20 = .ok (.aload_n 0, 1) := by decide +kernel
theorem dX5_swapRows_21 : decode cX5_swapRows 21 = .ok (.getfield 21, 3) := by decide +kernel
theorem dX5_swapRows_24 : decode cX5_swapRows 24 = .ok (.iload_n 1, 1) := by decide +kernel
theorem dX5_swapRows_25 : decode cX5_swapRows 25 = .ok (.aaload, 1) := by decide +kernel
theorem dX5_swapRows_26 : decode cX5_swapRows 26 = .ok (.iload_n 3, 1) := by decide +kernel
theorem dX5_swapRows_27 : decode cX5_swapRows 27 = .ok (.aload_n 0, 1) := by decide +kernel
theorem dX5_swapRows_28 : decode cX5_swapRows 28 = .ok (.getfield 21, 3) := by decide +kernel
theorem dX5_swapRows_31 : decode cX5_swapRows 31 = .ok (.iload_n 2, 1) := by decide +kernel
theorem dX5_swapRows_32 : decode cX5_swapRows 32 = .ok (.aaload, 1) := by decide +kernel
theorem dX5_swapRows_33 : decode cX5_swapRows 33 = .ok (.iload_n 3, 1) := by decide +kernel
theorem dX5_swapRows_34 : decode cX5_swapRows 34 = .ok (.laload, 1) := by decide +kernel
theorem dX5_swapRows_35 : decode cX5_swapRows 35 = .ok (.lastore, 1) := by decide +kernel
theorem dX5_swapRows_36 : decode cX5_swapRows 36 = .ok (.aload_n 0, 1) := by decide +kernel
theorem dX5_swapRows_37 : decode cX5_swapRows 37 = .ok (.getfield 21, 3) := by decide +kernel
theorem dX5_swapRows_40 : decode cX5_swapRows 40 = .ok (.iload_n 2, 1) := by decide +kernel
theorem dX5_swapRows_41 : decode cX5_swapRows 41 = .ok (.aaload, 1) := by decide +kernel
theorem dX5_swapRows_42 : decode cX5_swapRows 42 = .ok (.iload_n 3, 1) := by decide +kernel
theorem dX5_swapRows_43 : decode cX5_swapRows 43 = .ok (.lload 4, 2) := by decide +kernel
theorem dX5_swapRows_45 : decode cX5_swapRows 45 = .ok (.lastore, 1) := by decide +kernel
theorem dX5_swapRows_46 : decode cX5_swapRows 46 = .ok (.iinc 3 1, 3) := by decide +kernel
theorem dX5_swapRows_49 : decode cX5_swapRows 49 = .ok (.goto (-47), 3) := by decide +kernel
theorem dX5_swapRows_52 : decode cX5_swapRows 52 = .ok (.return_, 1) := by decide +kernel
theorem dX5_swapColumns_0 : decode cX5_swapColumns 0 = .ok (.iconst 0, 1) := by decide +kernel
theorem dX5_swapColumns_1 : decode cX5_swapColumns 1 = .ok (.istore_n 3, 1) := by decide +kernel
theorem dX5_swapColumns_2 : decode cX5_swapColumns 2 = .ok (.iload_n 3, 1) := by decide +kernel
theorem dX5_swapColumns_3 : decode cX5_swapColumns 3 = .ok (.aload_n 0, 1) := by decide +kernel
theorem dX5_swapColumns_4 : decode cX5_swapColumns 4 = .ok (.getfield 24, 3) := by decide +kernel
theorem dX5_swapColumns_7 : decode cX5_swapColumns 7 = .ok (.if_icmp .ge 45, 3) := by decide +kernel
theorem dX5_swapColumns_10 : decode cX5_swapColumns 10 = .ok (.aload_n 0, 1) := by decide +kernel
theorem dX5_swapColumns_11 : decode cX5_swapColumns 11 = .ok (.getfield 21, 3) := by decide +kernel
theorem dX5_swapColumns_14 : decode cX5_swapColumns 14 = .ok (.iload_n 3, 1) := by decide +kernel
theorem dX5_swapColumns_15 : decode cX5_swapColumns 15 = .ok (.aaload, 1) := by decide +kernel
theorem dX5_swapColumns_16 : decode cX5_swapColumns 16 = .ok (.iload_n 1, 1) := by decide +kernel
theorem dX5_swapColumns_17 : decode cX5_swapColumns 17 = .ok (.laload, 1) := by decide +kernel
theorem dX5_swapColumns_18 : decode cX5_swapColumns 18 = .ok (.lstore 4, 2) := by decide +kernel
theorem dX5_swapColumns_20 : decode cX5_swapColumns 20 = .ok (.aload_n 0, 1) := by decide +kernel
theorem dX5_swapColumns_21 : decode cX5_swapColumns 21 = .ok (.getfield 21, 3) := by decide +kernel
theorem dX5_swapColumns_24 : decode cX5_swapColumns 24 = .ok (.iload_n 3, 1) := by decide +kernel
theorem dX5_swapColumns_25 : decode cX5_swapColumns 25 = .ok (.aaload, 1) := by decide +kernel
theorem dX5_swapColumns_26 : decode cX5_swapColumns 26 = .ok (.iload_n 1, 1) := by decide +kernel
theorem dX5_swapColumns_27 : decode cX5_swapColumns 27 = .ok (.aload_n 0, 1) := by decide +kernel
theorem dX5_swapColumns_28 : decode cX5_swapColumns 28 = .ok (.getfield 21, 3) := by decide +kernel
theorem dX5_swapColumns_31 : decode cX5_swapColumns 31 = .ok (.iload_n 3, 1) := by decide +kernel
theorem dX5_swapColumns_32 : decode cX5_swapColumns 32 = .ok (.aaload, 1) := by decide +kernel
theorem dX5_swapColumns_33 : decode cX5_swapColumns 33 = .ok (.iload_n 2, 1) := by decide +kernel
theorem dX5_swapColumns_34 : decode cX5_swapColumns 34 = .ok (.laload, 1) := by decide +kernel
theorem dX5_swapColumns_35 : decode cX5_swapColumns 35 = .ok (.lastore, 1) := by decide +kernel
theorem dX5_swapColumns_36 : decode cX5_swapColumns 36 = .ok (.aload_n 0, 1) := by decide +kernel
theorem dX5_swapColumns_37 : decode cX5_swapColumns 37 = .ok (.getfield 21, 3) := by decide +kernel
theorem dX5_swapColumns_40 : decode cX5_swapColumns 40 = .ok (.iload_n 3, 1) := by decide +kernel
theorem dX5_swapColumns_41 : decode cX5_swapColumns 41 = .ok (.aaload, 1) := by decide +kernel
theorem dX5_swapColumns_42 : decode cX5_swapColumns 42 = .ok (.iload_n 2, 1) := by decide +kernel
theorem dX5_swapColumns_43 : decode cX5_swapColumns 43 = .ok (.lload 4, 2) := by decide +kernel
theorem dX5_swapColumns_45 : decode cX5_swapColumns 45 = .ok (.lastore, 1) := by decide +kernel
theorem dX5_swapColumns_46 : decode cX5_swapColumns 46 = .ok (.iinc 3 1, 3) := by decide +kernel
theorem dX5_swapColumns_49 : decode cX5_swapColumns 49 = .ok (.goto (-47), 3) := by decide +kernel
theorem dX5_swapColumns_52 : decode cX5_swapColumns 52 = .ok (.return_, 1) := by decide +kernel
theorem dX5_clearColumn_0 : decode cX5_clearColumn 0 = .ok (.aload_n 0, 1) := by decide +kernel
theorem dX5_clearColumn_1 : decode cX5_clearColumn 1 = .ok (.getfield 21, 3) := by decide +kernel
theorem dX5_clearColumn_4 : decode cX5_clearColumn 4 = .ok (.iload_n 1, 1) := by decide +kernel
theorem dX5_clearColumn_5 : decode cX5_clearColumn 5 = .ok (.aaload, 1) := by decide +kernel
theorem dX5_clearColumn_6 : decode cX5_clearColumn 6 = .ok (.iload_n 1, 1) := by decide +kernel
theorem dX5_clearColumn_7 : decode cX5_clearColumn 7 = .ok (.laload, 1) := by decide +kernel
theorem dX5_clearColumn_8 : decode cX5_clearColumn 8 = .ok (.lstore 4, 2) := by decide +kernel
theorem dX5_clearColumn_10 : decode cX5_clearColumn 10 = .ok (.iconst 1, 1) := by decide +kernel
theorem dX5_clearColumn_11 : decode cX5_clearColumn 11 = .ok (.istore 6, 2) := by decide +kernel
theorem dX5_clearColumn_13 : decode cX5_clearColumn 13 = .ok (.iload_n 1, 1) := by decide +kernel
theorem dX5_clearColumn_14 : decode cX5_clearColumn 14 = .ok (.iconst 1, 1) := by decide +kernel
theorem dX5_clearColumn_15 : decode cX5_clearColumn 15 = .ok (.iadd, 1) := by decide +kernel
theorem dX5_clearColumn_16 : decode cX5_clearColumn 16 = .ok (.istore 7, 2) := by decide +kernel
theorem dX5_clearColumn_18 : decode cX5_clearColumn 18 = .ok (.iload 7, 2) := by decide +kernel
theorem dX5_clearColumn_20 : decode cX5_clearColumn 20 = .ok (.aload_n 0, 1) := by decide +kernel
theorem dX5_clearColumn_21 : decode cX5_clearColumn 21 = .ok (.getfield 24, 3) := by decide +kernel
theorem dX5_clearColumn_24 : decode cX5_clearColumn 24 = .ok (.if_icmp .ge 54, 3) := by decide +kernel
theorem dX5_clearColumn_27 : decode cX5_clearColumn 27 = .ok (.lload 4, 2) := by decide +kernel
theorem dX5_clearColumn_29 : decode cX5_clearColumn 29 = .ok (.lconst 0, 1) := by decide +kernel
theorem dX5_clearColumn_30 : decode cX5_clearColumn 30 = .ok (.lcmp, 1) := by decide +kernel
theorem dX5_clearColumn_31 : decode cX5_clearColumn 31 = .ok (.ifCond .eq 47, 3) := by decide +kernel
theorem dX5_clearColumn_34 : decode cX5_clearColumn 34 = .ok (.aload_n 0, 1) := by decide +kernel
theorem dX5_clearColumn_35 : decode cX5_clearColumn 35 = .ok (.iload_n 1, 1) := by decide +kernel
theorem dX5_clearColumn_36 : decode cX5_clearColumn 36 = .ok (.iload 7, 2) := by decide +kernel
theorem dX5_clearColumn_38 : decode cX5_clearColumn 38 = .ok (.aload_n 0, 1) := by decide +kernel
theorem dX5_clearColumn_39 : decode cX5_clearColumn 39 = .ok (.getfield 21, 3) := by decide +kernel
theorem dX5_clearColumn_42 : decode cX5_clearColumn 42 = .ok (.iload 7, 2) := by decide +kernel
theorem dX5_clearColumn_44 : decode cX5_clearColumn 44 = .ok (.aaload, 1) := by decide +kernel
theorem dX5_clearColumn_45 : decode cX5_clearColumn 45 = .ok (.iload_n 1, 1) := by decide +kernel
theorem dX5_clearColumn_46 : decode cX5_clearColumn 46 = .ok (.laload, 1) := by decide +kernel
theorem dX5_clearColumn_47 : decode cX5_clearColumn 47 = .ok (.lload 4, 2) := by decide +kernel
theorem dX5_clearColumn_49 : decode cX5_clearColumn 49 = .ok (.ldiv, 1) := by decide +kernel
theorem dX5_clearColumn_50 : decode cX5_clearColumn 50 = .ok (.lneg, 1) := by decide +kernel
theorem dX5_clearColumn_51 : decode cX5_clearColumn 51 = .ok (.lload_n 2, 1) := by decide +kernel
theorem dX5_clearColumn_52 : decode cX5_clearColumn 52 = .ok (.invokevirtual 115, 3) := by decide +kernel
theorem dX5_clearColumn_55 : decode cX5_clearColumn 55 = .ok (.aload_n 0, 1) := by decide +kernel
theorem dX5_clearColumn_56 : decode cX5_clearColumn 56 = .ok (.getfield 21, 3) := by decide +kernel
theorem dX5_clearColumn_59 : decode cX5_clearColumn 59 = .ok (.iload 7, 2) := by decide +kernel
theorem dX5_clearColumn_61 : decode cX5_clearColumn 61 = .ok (.aaload, 1) := by decide +kernel
theorem dX5_clearColumn_62 : decode cX5_clearColumn 62 = .ok (.iload_n 1, 1) := by decide +kernel
theorem dX5_clearColumn_63 : decode cX5_clearColumn 63 = .ok (.laload, 1) := by decide +kernel
theorem dX5_clearColumn_64 : decode cX5_clearColumn 64 = .ok (.lconst 0, 1) := by decide +kernel
theorem dX5_clearColumn_65 : decode cX5_clearColumn 65 = .ok (.lcmp, 1) := by decide +kernel
theorem dX5_clearColumn_66 : decode cX5_clearColumn 66 = .ok (.ifCond .eq 6, 3) := by decide +kernel
theorem dX5_clearColumn_69 : decode cX5_clearColumn 69 = .ok (.iconst 0, 1) := by decide +kernel
theorem dX5_clearColumn_70 : decode cX5_clearColumn 70 = .ok (.istore 6, 2) := by decide +kernel
theorem dX5_clearColumn_72 : decode cX5_clearColumn 72 = .ok (.iinc 7 1, 3) := by decide +kernel
theorem dX5_clearColumn_75 : decode cX5_clearColumn 75 = .ok (.goto (-57), 3) := by decide +kernel
theorem dX5_clearColumn_78 : decode cX5_clearColumn 78 = .ok (.iload 6, 2) := by decide +kernel
theorem dX5_clearColumn_80 : decode cX5_clearColumn 80 = .ok (.ireturn, 1) := by decide +kernel
theorem dX5_clearRow_0 : decode cX5_clearRow 0 = .ok (.aload_n 0, 1) := by decide +kernel
theorem dX5_clearRow_1 : decode cX5_clearRow 1 = .ok (.getfield 21, 3) := by decide +kernel
theorem dX5_clearRow_4 : decode cX5_clearRow 4 = .ok (.iload_n 1, 1) := by decide +kernel
theorem dX5_clearRow_5 : decode cX5_clearRow 5 = .ok (.aaload, 1) := by decide +kernel
theorem dX5_clearRow_6 : decode cX5_clearRow 6 = .ok (.iload_n 1, 1) := by decide +kernel
theorem dX5_clearRow_7 : decode cX5_clearRow 7 = .ok (.laload, 1) := by decide +kernel
theorem dX5_clearRow_8 : decode cX5_clearRow 8 = .ok (.lstore 4, 2) := by decide +kernel
theorem dX5_clearRow_10 : decode cX5_clearRow 10 = .ok (.iconst 1, 1) := by decide +kernel
theorem dX5_clearRow_11 : decode cX5_clearRow 11 = .ok (.istore 6, 2) := by decide +kernel
theorem dX5_clearRow_13 : decode cX5_clearRow 13 = .ok (.iload_n 1, 1) := by decide +kernel
theorem dX5_clearRow_14 : decode cX5_clearRow 14 = .ok (.iconst 1, 1) := by decide +kernel
theorem dX5_clearRow_15 : decode cX5_clearRow 15 = .ok (.iadd, 1) := by decide +kernel
theorem dX5_clearRow_16 : decode cX5_clearRow 16 = .ok (.istore 7, 2) := by decide +kernel
theorem dX5_clearRow_18 : decode cX5_clearRow 18 = .ok (.iload 7, 2) := by decide +kernel
theorem dX5_clearRow_20 : decode cX5_clearRow 20 = .ok (.aload_n 0, 1) := by decide +kernel
theorem dX5_clearRow_21 : decode cX5_clearRow 21 = .ok (.getfield 24, 3) := by decide +kernel
theorem dX5_clearRow_24 : decode cX5_clearRow 24 = .ok (.if_icmp .ge 54, 3) := by decide +kernel
theorem dX5_clearRow_27 : decode cX5_clearRow 27 = .ok (.lload 4, 2) := by decide +kernel
theorem dX5_clearRow_29 : decode cX5_clearRow 29 = .ok (.lconst 0, 1) := by decide +kernel
theorem dX5_clearRow_30 : decode cX5_clearRow 30 = .ok (.lcmp, 1) := by decide +kernel
theorem dX5_clearRow_31 : decode cX5_clearRow 31 = .ok (.ifCond .eq 47, 3) := by decide +kernel
theorem dX5_clearRow_34 : decode cX5_clearRow 34 = .ok (.aload_n 0, 1) := by decide +kernel
theorem dX5_clearRow_35 : decode cX5_clearRow 35 = .ok (.iload_n 1, 1) := by decide +kernel
theorem dX5_clearRow_36 : decode cX5_clearRow 36 = .ok (.iload 7, 2) := by decide +kernel
theorem dX5_clearRow_38 : decode cX5_clearRow 38 = .ok (.aload_n 0, 1) := by decide +kernel
theorem dX5_clearRow_39 : decode cX5_clearRow 39 = .ok (.getfield 21, 3) := by decide +kernel
theorem dX5_clearRow_42 : decode cX5_clearRow 42 = .ok (.iload_n 1, 1) := by decide +kernel
theorem dX5_clearRow_43 : decode cX5_clearRow 43 = .ok (.aaload, 1) := by decide +kernel
theorem dX5_clearRow_44 : decode cX5_clearRow 44 = .ok (.iload 7, 2) := by decide +kernel
theorem dX5_clearRow_46 : decode cX5_clearRow 46 = .ok (.laload, 1) := by decide +kernel
theorem dX5_clearRow_47 : decode cX5_clearRow 47 = .ok (.lload 4, 2) := by decide +kernel
theorem dX5_clearRow_49 : decode cX5_clearRow 49 = .ok (.ldiv, 1) := by decide +kernel
theorem dX5_clearRow_50 : decode cX5_clearRow 50 = .ok (.lneg, 1) := by decide +kernel
theorem dX5_clearRow_51 : decode cX5_clearRow 51 = .ok (.lload_n 2, 1) := by decide +kernel
theorem dX5_clearRow_52 : decode cX5_clearRow 52 = .ok (.invokevirtual 119, 3) := by decide +kernel
theorem dX5_clearRow_55 : decode cX5_clearRow 55 = .ok (.aload_n 0, 1) := by decide +kernel
theorem dX5_clearRow_56 : decode cX5_clearRow 56 = .ok (.getfield 21, 3) := by decide +kernel
theorem dX5_clearRow_59 : decode cX5_clearRow 59 = .ok (.iload_n 1, 1) := by decide +kernel
theorem dX5_clearRow_60 : decode cX5_clearRow 60 = .ok (.aaload, 1) := by decide +kernel
theorem dX5_clearRow_61 : decode cX5_clearRow 61 = .ok (.iload 7, 2) := by decide +kernel
theorem dX5_clearRow_63 : decode cX5_clearRow 63 = .ok (.laload, 1) := by decide +kernel
theorem dX5_clearRow_64 : decode cX5_clearRow 64 = .ok (.lconst 0, 1) := by decide +kernel
theorem dX5_clearRow_65 : decode cX5_clearRow 65 = .ok (.lcmp, 1) := by decide +kernel
theorem dX5_clearRow_66 : decode cX5_clearRow 66 = .ok (.ifCond .eq 6, 3) := by decide +kernel
theorem dX5_clearRow_69 : decode cX5_clearRow 69 = .ok (.iconst 0, 1) := by decide +kernel
theorem dX5_clearRow_70 : decode cX5_clearRow 70 = .ok (.istore 6, 2) := by decide +kernel
theorem dX5_clearRow_72 : decode cX5_clearRow 72 = .ok (.iinc 7 1, 3) := by decide +kernel
theorem dX5_clearRow_75 : decode cX5_clearRow 75 = .ok (.goto (-57), 3) := by decide +kernel
theorem dX5_clearRow_78 : decode cX5_clearRow 78 = .ok (.iload 6, 2) := by decide +kernel
theorem dX5_clearRow_80 : decode cX5_clearRow 80 = .ok (.ireturn, 1) := by decide +kernel
theorem dX5_addRow_0 : decode cX5_addRow 0 = .ok (.iconst 0, 1) := by decide +kernel
theorem dX5_addRow_1 : decode cX5_addRow 1 = .ok (.istore 7, 2) := by decide +kernel
theorem dX5_addRow_3 : decode cX5_addRow 3 = .ok (.iload 7, 2) := by decide +kernel
theorem dX5_addRow_5 : decode cX5_addRow 5 = .ok (.aload_n 0, 1) := by decide +kernel
theorem dX5_addRow_6 : decode cX5_addRow 6 = .ok (.getfield 24, 3) := by decide +kernel
theorem dX5_addRow_9 : decode cX5_addRow 9 = .ok (.if_icmp .ge 51, 3) := by decide +kernel
theorem dX5_addRow_12 : decode cX5_addRow 12 = .ok (.lload 5, 2) := by decide +kernel
theorem dX5_addRow_14 : decode cX5_addRow 14 = .ok (.lconst 0, 1) := by decide +kernel
theorem dX5_addRow_15 : decode cX5_addRow 15 = .ok (.lcmp, 1) := by decide +kernel
theorem dX5_addRow_16 : decode cX5_addRow 16 = .ok (.ifCond .eq 44, 3) := by decide +kernel
theorem dX5_addRow_19 : decode cX5_addRow 19 = .ok (.aload_n 0, 1) := by decide +kernel
theorem dX5_addRow_20 : decode cX5_addRow 20 = .ok (.getfield 21, 3) := by decide +kernel
theorem dX5_addRow_23 : decode cX5_addRow 23 = .ok (.iload_n 2, 1) := by decide +kernel
theorem dX5_addRow_24 : decode cX5_addRow 24 = .ok (.aaload, 1) := by decide +kernel
theorem dX5_addRow_25 : decode cX5_addRow 25 = .ok (.iload 7, 2) := by decide +kernel
theorem dX5_addRow_27 : decode cX5_addRow 27 = .ok (.aload_n 0, 1) := by decide +kernel
theorem dX5_addRow_28 : decode cX5_addRow 28 = .ok (.getfield 21, 3) := by decide +kernel
theorem dX5_addRow_31 : decode cX5_addRow 31 = .ok (.iload_n 2, 1) := by decide +kernel
theorem dX5_addRow_32 : decode cX5_addRow 32 = .ok (.aaload, 1) := by decide +kernel
theorem dX5_addRow_33 : decode cX5_addRow 33 = .ok (.iload 7, 2) := by decide +kernel
theorem dX5_addRow_35 : decode cX5_addRow 35 = .ok (.laload, 1) := by decide +kernel
theorem dX5_addRow_36 : decode cX5_addRow 36 = .ok (.lload_n 3, 1) := by decide +kernel
theorem dX5_addRow_37 : decode cX5_addRow 37 = .ok (.aload_n 0, 1) := by decide +kernel
theorem dX5_addRow_38 : decode cX5_addRow 38 = .ok (.getfield 21, 3) := by decide +kernel
theorem dX5_addRow_41 : decode cX5_addRow 41 = .ok (.iload_n 1, 1) := by decide +kernel
theorem dX5_addRow_42 : decode cX5_addRow 42 = .ok (.aaload, 1) := by decide +kernel
theorem dX5_addRow_43 : decode cX5_addRow 43 = .ok (.iload 7, 2) := by decide +kernel
theorem dX5_addRow_45 : decode cX5_addRow 45 = .ok (.laload, 1) := by decide +kernel
theorem dX5_addRow_46 : decode cX5_addRow 46 = .ok (.lmul, 1) := by decide +kernel
theorem dX5_addRow_47 : decode cX5_addRow 47 = .ok (.ladd, 1) := by decide +kernel
theorem dX5_addRow_48 : decode cX5_addRow 48 = .ok (.lload 5, 2) := by decide +kernel
theorem dX5_addRow_50 : decode cX5_addRow 50 = .ok (.invokestatic 86, 3) := by decide +kernel
theorem dX5_addRow_53 : decode cX5_addRow 53 = .ok (.lastore, 1) := by decide +kernel
theorem dX5_addRow_54 : decode cX5_addRow 54 = .ok (.iinc 7 1, 3) := by decide +kernel
theorem dX5_addRow_57 : decode cX5_addRow 57 = .ok (.goto (-54), 3) := by decide +kernel
theorem dX5_addRow_60 : decode cX5_addRow 60 = .ok (.return_, 1) := by decide +kernel
theorem dX5_addColumn_0 : decode cX5_addColumn 0 = .ok (.iconst 0, 1) := by decide +kernel
theorem dX5_addColumn_1 : decode cX5_addColumn 1 = .ok (.istore 7, 2) := by decide +kernel
theorem dX5_addColumn_3 : decode cX5_addColumn 3 = .ok (.iload 7, 2) := by decide +kernel
theorem dX5_addColumn_5 : decode cX5_addColumn 5 = .ok (.aload_n 0, 1) := by decide +kernel
theorem dX5_addColumn_6 : decode cX5_addColumn 6 = .ok (.getfield 24, 3) := by decide +kernel
theorem dX5_addColumn_9 : decode cX5_addColumn 9 = .ok (.if_icmp .ge 51, 3) := by decide +kernel
theorem dX5_addColumn_12 : decode cX5_addColumn 12 = .ok (.lload 5, 2) := by decide +kernel
theorem dX5_addColumn_14 : decode cX5_addColumn 14 = .ok (.lconst 0, 1) := by decide +kernel
theorem dX5_addColumn_15 : decode cX5_addColumn 15 = .ok (.lcmp, 1) := by decide +kernel
theorem dX5_addColumn_16 : decode cX5_addColumn 16 = .ok (.ifCond .eq 44, 3) := by decide +kernel
theorem dX5_addColumn_19 : decode cX5_addColumn 19 = .ok (.aload_n 0, 1) := by decide +kernel
theorem dX5_addColumn_20 : decode cX5_addColumn 20 = .ok (.getfield 21, 3) := by decide +kernel
theorem dX5_addColumn_23 : decode cX5_addColumn 23 = .ok (.iload 7, 2) := by decide +kernel
theorem dX5_addColumn_25 : decode cX5_addColumn 25 = .ok (.aaload, 1) := by decide +kernel
theorem dX5_addColumn_26 : decode cX5_addColumn 26 = .ok (.iload_n 2, 1) := by decide +kernel
theorem dX5_addColumn_27 : decode cX5_addColumn 27 = .ok (.aload_n 0, 1) := by decide +kernel
theorem dX5_addColumn_28 : decode cX5_addColumn 28 = .ok (.getfield 21, 3) := by decide +kernel
theorem dX5_addColumn_31 : decode cX5_addColumn 31 = .ok (.iload 7, 2) := by decide +kernel
theorem dX5_addColumn_33 : decode cX5_addColumn 33 = .ok (.aaload, 1) := by decide +kernel
theorem dX5_addColumn_34 : decode cX5_addColumn 34 = .ok (.iload_n 2, 1) := by decide +kernel
theorem dX5_addColumn_35 : decode cX5_addColumn 35 = .ok (.laload, 1) := by decide +kernel
theorem dX5_addColumn_36 : decode cX5_addColumn 36 = .ok (.lload_n 3, 1) := by decide +kernel
theorem dX5_addColumn_37 : decode cX5_addColumn 37 = .ok (.aload_n 0, 1) := by decide +kernel
theorem dX5_addColumn_38 : decode cX5_addColumn 38 = .ok (.getfield 21, 3) := by decide +kernel
theorem dX5_addColumn_41 : decode cX5_addColumn 41 = .ok (.iload 7, 2) := by decide +kernel
theorem dX5_addColumn_43 : decode cX5_addColumn 43 = .ok (.aaload, 1) := by decide +kernel
theorem dX5_addColumn_44 : decode cX5_addColumn 44 = .ok (.iload_n 1, 1) := by decide +kernel
theorem dX5_addColumn_45 : decode cX5_addColumn 45 = .ok (.laload, 1) := by decide +kernel
theorem dX5_addColumn_46 : decode cX5_addColumn 46 = .ok (.lmul, 1) := by decide +kernel
theorem dX5_addColumn_47 : decode cX5_addColumn 47 = .ok (.ladd, 1) := by decide +kernel
theorem dX5_addColumn_48 : decode cX5_addColumn 48 = .ok (.lload 5, 2) := by decide +kernel
theorem dX5_addColumn_50 : decode cX5_addColumn 50 = .ok (.invokestatic 86, 3) := by decide +kernel
theorem dX5_addColumn_53 : decode cX5_addColumn 53 = .ok (.lastore, 1) := by decide +kernel
theorem dX5_addColumn_54 : decode cX5_addColumn 54 = .ok (.iinc 7 1, 3) := by decide +kernel
theorem dX5_addColumn_57 : decode cX5_addColumn 57 = .ok (.goto (-54), 3) := by decide +kernel
theorem dX5_addColumn_60 : decode cX5_addColumn 60 = .ok (.return_, 1) := by decide +kernel
theorem dX5_addUndividedRow_0 : decode cX5_addUndividedRow 0 = .ok (.aload_n 0, 1) := by decide +kernel
theorem dX5_addUndividedRow_1 : decode cX5_addUndividedRow 1 = .ok (.getfield 21, 3) := by decide +kernel
theorem dX5_addUndividedRow_4 : decode cX5_addUndividedRow 4 = .ok (.iload_n 1, 1) := by decide +kernel
theorem dX5_addUndividedRow_5 : decode cX5_addUndividedRow 5 = .ok (.aaload, 1) := by decide +kernel
theorem dX5_addUndividedRow_6 : decode cX5_addUndividedRow 6 = .ok (.iload_n 1, 1) := by decide +kernel
theorem dX5_addUndividedRow_7 : decode cX5_addUndividedRow 7 = .ok (.laload, 1) := by decide +kernel
theorem dX5_addUndividedRow_8 : decode cX5_addUndividedRow 8 = .ok (.lstore 4, 2) := by decide +kernel
theorem dX5_addUndividedRow_10 : decode cX5_addUndividedRow 10 = .ok (.iload_n 1, 1) := by decide +kernel
theorem dX5_addUndividedRow_11 : decode cX5_addUndividedRow 11 = .ok (.iconst 1, 1) := by decide +kernel
theorem dX5_addUndividedRow_12 : decode cX5_addUndividedRow 12 = .ok (.iadd, 1) := by decide +kernel
theorem dX5_addUndividedRow_13 : decode cX5_addUndividedRow 13 = .ok (.istore 6, 2) := by decide +kernel
theorem dX5_addUndividedRow_15 : decode cX5_addUndividedRow 15 = .ok (.iload 6, 2) := by decide +kernel
theorem dX5_addUndividedRow_17 : decode cX5_addUndividedRow 17 = .ok (.aload_n 0, 1) := by decide +kernel
theorem dX5_addUndividedRow_18 : decode cX5_addUndividedRow 18 = .ok (.getfield 24, 3) := by decide +kernel
theorem dX5_addUndividedRow_21 : decode cX5_addUndividedRow 21 = .ok (.if_icmp .ge 65, 3) := by decide +kernel
theorem dX5_addUndividedRow_24 : decode cX5_addUndividedRow 24 = .ok (.iload_n 1, 1) := by decide +kernel
theorem dX5_addUndividedRow_25 : decode cX5_addUndividedRow 25 = .ok (.iconst 1, 1) := by decide +kernel
theorem dX5_addUndividedRow_26 : decode cX5_addUndividedRow 26 = .ok (.iadd, 1) := by decide +kernel
theorem dX5_addUndividedRow_27 : decode cX5_addUndividedRow 27 = .ok (.istore 7, 2) := by decide +kernel
theorem dX5_addUndividedRow_29 : decode cX5_addUndividedRow 29 = .ok (.iload 7, 2) := by decide +kernel
theorem dX5_addUndividedRow_31 : decode cX5_addUndividedRow 31 = .ok (.aload_n 0, 1) := by decide +kernel
theorem dX5_addUndividedRow_32 : decode cX5_addUndividedRow 32 = .ok (.getfield 24, 3) := by decide +kernel
theorem dX5_addUndividedRow_35 : decode cX5_addUndividedRow 35 = .ok (.if_icmp .ge 45, 3) := by decide +kernel
theorem dX5_addUndividedRow_38 : decode cX5_addUndividedRow 38 = .ok (.lload 4, 2) := by decide +kernel
theorem dX5_addUndividedRow_40 : decode cX5_addUndividedRow 40 = .ok (.lconst 0, 1) := by decide +kernel
theorem dX5_addUndividedRow_41 : decode cX5_addUndividedRow 41 = .ok (.lcmp, 1) := by decide +kernel
theorem dX5_addUndividedRow_42 : decode cX5_addUndividedRow 42 = .ok (.ifCond .eq 38, 3) := by decide +kernel
theorem dX5_addUndividedRow_45 : decode cX5_addUndividedRow 45 = .ok (.aload_n 0, 1) := by decide +kernel
theorem dX5_addUndividedRow_46 : decode cX5_addUndividedRow 46 = .ok (.getfield 21, 3) := by decide +kernel
theorem dX5_addUndividedRow_49 : decode cX5_addUndividedRow 49 = .ok (.iload 6, 2) := by decide +kernel
theorem dX5_addUndividedRow_51 : decode cX5_addUndividedRow 51 = .ok (.aaload, 1) := by decide +kernel
theorem dX5_addUndividedRow_52 : decode cX5_addUndividedRow 52 = .ok (.iload 7, 2) := by decide +kernel
theorem dX5_addUndividedRow_54 : decode cX5_addUndividedRow 54 = .ok (.laload, 1) := by decide +kernel
theorem dX5_addUndividedRow_55 : decode cX5_addUndividedRow 55 = .ok (.lload 4, 2) := by decide +kernel
theorem dX5_addUndividedRow_57 : decode cX5_addUndividedRow 57 = .ok (.lrem, 1) := by decide +kernel
theorem dX5_addUndividedRow_58 : decode cX5_addUndividedRow 58 = .ok (.lconst 0, 1) := by decide +kernel
theorem dX5_addUndividedRow_59 : decode cX5_addUndividedRow 59 = .ok (.lcmp, 1) := by decide +kernel
theorem dX5_addUndividedRow_60 : decode cX5_addUndividedRow 60 = .ok (.ifCond .eq 14, 3) := by decide +kernel
theorem dX5_addUndividedRow_63 : decode cX5_addUndividedRow 63 = .ok (.aload_n 0, 1) := by decide +kernel
theorem dX5_addUndividedRow_64 : decode cX5_addUndividedRow 64 = .ok (.iload 6, 2) := by decide +kernel
theorem dX5_addUndividedRow_66 : decode cX5_addUndividedRow 66 = .ok (.iload_n 1, 1) := by decide +kernel
theorem dX5_addUndividedRow_67 : decode cX5_addUndividedRow 67 = .ok (.lconst 1, 1) := by decide +kernel
theorem dX5_addUndividedRow_68 : decode cX5_addUndividedRow 68 = .ok (.lload_n 2, 1) := by decide +kernel
theorem dX5_addUndividedRow_69 : decode cX5_addUndividedRow 69 = .ok (.invokevirtual 115, 3) := by decide +kernel
theorem dX5_addUndividedRow_72 : decode cX5_addUndividedRow 72 = .ok (.iconst 1, 1) := by decide +kernel
theorem dX5_addUndividedRow_73 : decode cX5_addUndividedRow 73 = .ok (.ireturn, 1) := by decide +kernel
theorem dX5_addUndividedRow_74 : decode cX5_addUndividedRow 74 = .ok (.iinc 7 1, 3) := by decide +kernel
theorem dX5_addUndividedRow_77 : decode cX5_addUndividedRow 77 = .ok (.goto (-48), 3) := by decide +kernel
theorem dX5_addUndividedRow_80 : decode cX5_addUndividedRow 80 = .ok (.iinc 6 1, 3) := by decide +kernel
theorem dX5_addUndividedRow_83 : decode cX5_addUndividedRow 83 = .ok (.goto (-68), 3) := by decide +kernel
theorem dX5_addUndividedRow_86 : decode cX5_addUndividedRow 86 = .ok (.iconst 0, 1) := by decide +kernel
theorem dX5_addUndividedRow_87 : decode cX5_addUndividedRow 87 = .ok (.ireturn, 1) := by decide +kernel
theorem dX5_commonDivisor_0 : decode cX5_commonDivisor 0 = .ok (.lload_n 0, 1) := by decide +kernel
theorem dX5_commonDivisor_1 : decode cX5_commonDivisor 1 = .ok (.invokestatic 122, 3) := by decide +kernel
theorem dX5_commonDivisor_4 : decode cX5_commonDivisor 4 = .ok (.lstore 4, 2) := by decide +kernel
theorem dX5_commonDivisor_6 : decode cX5_commonDivisor 6 = .ok (.lload_n 2, 1) := by decide +kernel
theorem dX5_commonDivisor_7 : decode cX5_commonDivisor 7 = .ok (.invokestatic 122, 3) := by decide +kernel
theorem dX5_commonDivisor_10 : decode cX5_commonDivisor 10 = .ok (.lstore 6, 2) := by decide +kernel
theorem dX5_commonDivisor_12 : decode cX5_commonDivisor 12 = .ok (.iconst 0, 1) := by decide +kernel
theorem dX5_commonDivisor_13 : decode cX5_commonDivisor 13 = .ok (.istore 8, 2) := by decide +kernel
theorem dX5_commonDivisor_15 : decode cX5_commonDivisor 15 = .ok (.lload 6, 2) := by decide +kernel
theorem dX5_commonDivisor_17 : decode cX5_commonDivisor 17 = .ok (.lconst 0, 1) := by decide +kernel
theorem dX5_commonDivisor_18 : decode cX5_commonDivisor 18 = .ok (.lcmp, 1) := by decide +kernel
theorem dX5_commonDivisor_19 : decode cX5_commonDivisor 19 = .ok (.ifCond .eq 31, 3) := by decide +kernel
theorem dX5_commonDivisor_22 : decode cX5_commonDivisor 22 = .ok (.iload 8, 2) := by decide +kernel
theorem dX5_commonDivisor_24 : decode cX5_commonDivisor 24 = .ok (.ldc 95, 2) := by decide +kernel
theorem dX5_commonDivisor_26 : decode cX5_commonDivisor 26 = .ok (.if_icmp .ge 24, 3) := by decide +kernel
theorem dX5_commonDivisor_29 : decode cX5_commonDivisor 29 = .ok (.lload 4, 2) := by decide +kernel
theorem dX5_commonDivisor_31 : decode cX5_commonDivisor 31 = .ok (.lload 6, 2) := by decide +kernel
theorem dX5_commonDivisor_33 : decode cX5_commonDivisor 33 = .ok (.lrem, 1) := by decide +kernel
theorem dX5_commonDivisor_34 : decode cX5_commonDivisor 34 = .ok (.lstore 9, 2) := by decide +kernel
theorem dX5_commonDivisor_36 : decode cX5_commonDivisor 36 = .ok (.lload 6, 2) := by decide +kernel
theorem dX5_commonDivisor_38 : decode cX5_commonDivisor 38 = .ok (.lstore 4, 2) := by decide +kernel
theorem dX5_commonDivisor_40 : decode cX5_commonDivisor 40 = .ok (.lload 9, 2) := by decide +kernel
theorem dX5_commonDivisor_42 : decode cX5_commonDivisor 42 = .ok (.lstore 6, 2) := by decide +kernel
theorem dX5_commonDivisor_44 : decode cX5_commonDivisor 44 = .ok (.iinc 8 1, 3) := by decide +kernel
theorem dX5_commonDivisor_47 : decode cX5_commonDivisor 47 = .ok (.goto (-32), 3) := by decide +kernel
theorem dX5_commonDivisor_50 : decode cX5_commonDivisor 50 = .ok (.lload 4, 2) := by decide +kernel
theorem dX5_commonDivisor_52 : decode cX5_commonDivisor 52 = .ok (.lreturn, 1) := by decide +kernel
set_option maxRecDepth 20000 in
theorem e_Ma_isFree {n : Nat} {x1 : Int} {s : Sto} {Q : Int → Sto → Prop} (hT : ∃ Q1 : Int → Sto → Prop, K_Gr_hasNode n x1 s Q1 ∧ ∀ r4 s3, Q1 r4 s3 → (-2147483648 ≤ r4 ∧ r4 < 2147483648) ∧ ((r4 = 0) → Q 0 s3) ∧ ((¬ r4 = 0) → (0 ≤ x1 ∧ x1 < 8) ∧ ((-2147483648 ≤ (s3 14 (Int.toNat x1)) ∧ (s3 14 (Int.toNat x1)) < 2147483648) ∧ -2147483648 ≤ x1 ∧ x1 < 2147483648) ∧ ((¬ (s3 14 (Int.toNat x1)) = x1) → Q 0 s3) ∧ (((s3 14 (Int.toNat x1)) = x1) → (0 ≤ (s3 1 2) ∧ (s3 1 2) < 8) ∧ ((-2147483648 ≤ x1 ∧ x1 < 2147483648) ∧ -2147483648 ≤ (s3 14 (Int.toNat (s3 1 2))) ∧ (s3 14 (Int.toNat (s3 1 2))) < 2147483648) ∧ ((x1 = (s3 14 (Int.toNat (s3 1 2)))) → Q 0 s3) ∧ ((¬ x1 = (s3 14 (Int.toNat (s3 1 2)))) → Q 1 s3)))) : K_Ma_isFree n x1 s Q := by
  refine Sp.body (by decide +kernel) (Nat.le_of_ble_eq_true rfl) ?_
  show Go (SL n) M_Ma_isFree (fI Q) 0 0 0 [(0, .ref 42), (1, iV x1)] [] s
  refine g_aload_n (npc := 1) dX5_isFree_0 rfl rfl rfl ?_
  refine gf_Ma_27 (npc := 4) dX5_isFree_1 rfl rfl ?_
  refine g_iload_n (npc := 5) dX5_isFree_4 rfl rfl rfl ?_
  obtain ⟨Q1, h2, hT⟩ := hT
  refine iv_Ma_57 (npc := 8) dX5_isFree_5 rfl rfl (Nat.le_of_ble_eq_true rfl) (by decide) (by decide) h2 (fun r4 s3 e5 => ?_)
  replace hT := hT r4 s3 e5
  obtain ⟨h6, hTt, hTf⟩ := hT
  refine g_if_eq (npc := 11) (tgt := 47) dX5_isFree_8 rfl (by decide) h6 (fun c7 => ?_) (fun c7 => ?_)
  · replace hT := hTt c7
    refine g_iconst (npc := 48) dX5_isFree_47 rfl ?_
    exact g_iret dX5_isFree_48 rfl (by decide) (by decide) ⟨_, rfl, hT⟩
  · replace hT := hTf c7
    refine g_aload_n (npc := 12) dX5_isFree_11 rfl rfl rfl ?_
    refine gf_Ma_27 (npc := 15) dX5_isFree_12 rfl rfl ?_
    refine gf_Ma_43 (npc := 18) dX5_isFree_15 rfl rfl ?_
    refine g_iload_n (npc := 19) dX5_isFree_18 rfl rfl rfl ?_
    obtain ⟨h8, hT⟩ := hT
    refine g_iald (npc := 20) dX5_isFree_19 rfl (arSL arSC_14) h8 ?_
    refine g_iload_n (npc := 21) dX5_isFree_20 rfl rfl rfl ?_
    obtain ⟨h9, hTt, hTf⟩ := hT
    refine g_icmp_ne (npc := 24) (tgt := 47) dX5_isFree_21 rfl (by decide) h9 (fun c10 => ?_) (fun c10 => ?_)
    · replace hT := hTt c10
      refine g_iconst (npc := 48) dX5_isFree_47 rfl ?_
      exact g_iret dX5_isFree_48 rfl (by decide) (by decide) ⟨_, rfl, hT⟩
    · replace hT := hTf (Decidable.not_not.mp c10)
      refine g_iload_n (npc := 25) dX5_isFree_24 rfl rfl rfl ?_
      refine g_aload_n (npc := 26) dX5_isFree_25 rfl rfl rfl ?_
      refine gf_Ma_27 (npc := 29) dX5_isFree_26 rfl rfl ?_
      refine gf_Ma_43 (npc := 32) dX5_isFree_29 rfl rfl ?_
      refine g_aload_n (npc := 33) dX5_isFree_32 rfl rfl rfl ?_
      refine gf_Ma_27 (npc := 36) dX5_isFree_33 rfl rfl ?_
      refine gf_Ma_60 (npc := 39) dX5_isFree_36 rfl rfl ?_
      obtain ⟨h11, hT⟩ := hT
      refine g_iald (npc := 40) dX5_isFree_39 rfl (arSL arSC_14) h11 ?_
      obtain ⟨h12, hTt, hTf⟩ := hT
      refine g_icmp_eq (npc := 43) (tgt := 47) dX5_isFree_40 rfl (by decide) h12 (fun c13 => ?_) (fun c13 => ?_)
      · replace hT := hTt c13
        refine g_iconst (npc := 48) dX5_isFree_47 rfl ?_
        exact g_iret dX5_isFree_48 rfl (by decide) (by decide) ⟨_, rfl, hT⟩
      · replace hT := hTf c13
        refine g_iconst (npc := 44) dX5_isFree_43 rfl ?_
        refine g_goto (npc := 48) dX5_isFree_44 (by decide) ?_
        exact g_iret dX5_isFree_48 rfl (by decide) (by decide) ⟨_, rfl, hT⟩
set_option maxRecDepth 20000 in
theorem e_Ma_fillEdge {n : Nat} {x1 : Int} {x2 : Int} {s : Sto} {Q : Sto → Prop} (hT : ∃ Q1 : Int → Sto → Prop, K_Ma_isFree n x1 s Q1 ∧ ∀ r4 s3, Q1 r4 s3 → ∃ J11 : Sto → Prop, (∀ s10, J11 s10 → ∃ Q14 : Int → Sto → Prop, K_Ma_isFree n x2 s10 Q14 ∧ ∀ r17 s16, Q14 r17 s16 → ∃ J24 : Sto → Prop, (∀ s23, J24 s23 → ∃ Q27 : Int → Sto → Prop, K_Ma_isFree n x1 s23 Q27 ∧ ∀ r30 s29, Q27 r30 s29 → (-2147483648 ≤ r30 ∧ r30 < 2147483648) ∧ ((r30 = 0) → Q s29) ∧ ((¬ r30 = 0) → ∃ Q34 : Int → Sto → Prop, K_Ma_isFree n x2 s29 Q34 ∧ ∀ r37 s36, Q34 r37 s36 → (-2147483648 ≤ r37 ∧ r37 < 2147483648) ∧ ((r37 = 0) → Q s36) ∧ ((¬ r37 = 0) → (0 ≤ x1 ∧ x1 < 8) ∧ (0 ≤ x2 ∧ x2 < 9) ∧ (0 ≤ x2 ∧ x2 < 9) ∧ ∀ s44, s44 = up s36 (45 + Int.toNat x1) (Int.toNat x2) ((s36 (45 + Int.toNat x1) (Int.toNat x2)) - 1) → (0 ≤ x2 ∧ x2 < 8) ∧ (0 ≤ x1 ∧ x1 < 9) ∧ (0 ≤ x1 ∧ x1 < 9) ∧ ∀ s48, s48 = up s44 (45 + Int.toNat x2) (Int.toNat x1) ((s44 (45 + Int.toNat x2) (Int.toNat x1)) - 1) → Q s48))) ∧ (-2147483648 ≤ r17 ∧ r17 < 2147483648) ∧ ((r17 = 0) → J24 s16) ∧ ((¬ r17 = 0) → (0 ≤ x2 ∧ x2 < 8) ∧ (0 ≤ x2 ∧ x2 < 9) ∧ (0 ≤ x2 ∧ x2 < 9) ∧ ∀ s54, s54 = up s16 (45 + Int.toNat x2) (Int.toNat x2) ((s16 (45 + Int.toNat x2) (Int.toNat x2)) + 1) → J24 s54)) ∧ (-2147483648 ≤ r4 ∧ r4 < 2147483648) ∧ ((r4 = 0) → J11 s3) ∧ ((¬ r4 = 0) → (0 ≤ x1 ∧ x1 < 8) ∧ (0 ≤ x1 ∧ x1 < 9) ∧ (0 ≤ x1 ∧ x1 < 9) ∧ ∀ s61, s61 = up s3 (45 + Int.toNat x1) (Int.toNat x1) ((s3 (45 + Int.toNat x1) (Int.toNat x1)) + 1) → J11 s61)) : K_Ma_fillEdge n x1 x2 s Q := by
  refine Sp.body (by decide +kernel) (Nat.le_of_ble_eq_true rfl) ?_
  show Go (SL n) M_Ma_fillEdge (fV0 Q) 0 0 0 [(0, .ref 42), (1, iV x1), (2, iV x2)] [] s
  refine g_aload_n (npc := 1) dX5_fillEdge_0 rfl rfl rfl ?_
  refine g_iload_n (npc := 2) dX5_fillEdge_1 rfl rfl rfl ?_
  obtain ⟨Q1, h2, hT⟩ := hT
  refine iv_Ma_36 (npc := 5) dX5_fillEdge_2 rfl rfl (Nat.le_of_ble_eq_true rfl) (by decide) (by decide) h2 (fun r4 s3 e5 => ?_)
  replace hT := hT r4 s3 e5
  obtain ⟨J11, hT⟩ := hT
  obtain ⟨hj56, hT⟩ := hT
  have K57 : ∀ (s10 : Sto), J11 s10 → Go (SL n) M_Ma_fillEdge (fV0 Q) 0 0 20 [(0, .ref 42), (1, iV x1), (2, iV x2)] [] s10 := by
    intro s10 q62
    replace hT := hj56 s10 q62
    refine g_aload_n (npc := 21) dX5_fillEdge_20 rfl rfl rfl ?_
    refine g_iload_n (npc := 22) dX5_fillEdge_21 rfl rfl rfl ?_
    obtain ⟨Q14, h15, hT⟩ := hT
    refine iv_Ma_36 (npc := 25) dX5_fillEdge_22 rfl rfl (Nat.le_of_ble_eq_true rfl) (by decide) (by decide) h15 (fun r17 s16 e18 => ?_)
    replace hT := hT r17 s16 e18
    obtain ⟨J24, hT⟩ := hT
    obtain ⟨hj49, hT⟩ := hT
    have K50 : ∀ (s23 : Sto), J24 s23 → Go (SL n) M_Ma_fillEdge (fV0 Q) 0 0 40 [(0, .ref 42), (1, iV x1), (2, iV x2)] [] s23 := by
      intro s23 q55
      replace hT := hj49 s23 q55
      refine g_aload_n (npc := 41) dX5_fillEdge_40 rfl rfl rfl ?_
      refine g_iload_n (npc := 42) dX5_fillEdge_41 rfl rfl rfl ?_
      obtain ⟨Q27, h28, hT⟩ := hT
      refine iv_Ma_36 (npc := 45) dX5_fillEdge_42 rfl rfl (Nat.le_of_ble_eq_true rfl) (by decide) (by decide) h28 (fun r30 s29 e31 => ?_)
      replace hT := hT r30 s29 e31
      obtain ⟨h32, hTt, hTf⟩ := hT
      refine g_if_eq (npc := 48) (tgt := 80) dX5_fillEdge_45 rfl (by decide) h32 (fun c33 => ?_) (fun c33 => ?_)
      · replace hT := hTt c33
        exact g_ret dX5_fillEdge_80 rfl (by decide) ⟨rfl, hT⟩
      · replace hT := hTf c33
        refine g_aload_n (npc := 49) dX5_fillEdge_48 rfl rfl rfl ?_
        refine g_iload_n (npc := 50) dX5_fillEdge_49 rfl rfl rfl ?_
        obtain ⟨Q34, h35, hT⟩ := hT
        refine iv_Ma_36 (npc := 53) dX5_fillEdge_50 rfl rfl (Nat.le_of_ble_eq_true rfl) (by decide) (by decide) h35 (fun r37 s36 e38 => ?_)
        replace hT := hT r37 s36 e38
        obtain ⟨h39, hTt, hTf⟩ := hT
        refine g_if_eq (npc := 56) (tgt := 80) dX5_fillEdge_53 rfl (by decide) h39 (fun c40 => ?_) (fun c40 => ?_)
        · replace hT := hTt c40
          exact g_ret dX5_fillEdge_80 rfl (by decide) ⟨rfl, hT⟩
        · replace hT := hTf c40
          refine g_aload_n (npc := 57) dX5_fillEdge_56 rfl rfl rfl ?_
          refine gf_Ma_21 (npc := 60) dX5_fillEdge_57 rfl rfl ?_
          refine g_iload_n (npc := 61) dX5_fillEdge_60 rfl rfl rfl ?_
          obtain ⟨h41, hT⟩ := hT
          refine g_aald6 (npc := 62) dX5_fillEdge_61 rfl (arSL arSC_44) h41 (frSC_44 h41) ?_
          refine g_iload_n (npc := 63) dX5_fillEdge_62 rfl rfl rfl ?_
          refine g_dup2 (npc := 64) dX5_fillEdge_63 rfl rfl rfl ?_
          obtain ⟨h42, hT⟩ := hT
          refine g_lald (npc := 65) dX5_fillEdge_64 rfl (arSL (rwSC_44 h41)) h42 ?_
          refine g_lconst (npc := 66) (x := 1) dX5_fillEdge_65 rfl (by decide) ?_
          refine g_lsub (npc := 67) dX5_fillEdge_66 rfl ?_
          obtain ⟨h43, hT⟩ := hT
          replace hT := hT _ rfl
          refine g_last (npc := 68) dX5_fillEdge_67 rfl (arSL (rwSC_44 h41)) h43  ?_
          refine g_aload_n (npc := 69) dX5_fillEdge_68 rfl rfl rfl ?_
          refine gf_Ma_21 (npc := 72) dX5_fillEdge_69 rfl rfl ?_
          refine g_iload_n (npc := 73) dX5_fillEdge_72 rfl rfl rfl ?_
          obtain ⟨h45, hT⟩ := hT
          refine g_aald6 (npc := 74) dX5_fillEdge_73 rfl (arSL arSC_44) h45 (frSC_44 h45) ?_
          refine g_iload_n (npc := 75) dX5_fillEdge_74 rfl rfl rfl ?_
          refine g_dup2 (npc := 76) dX5_fillEdge_75 rfl rfl rfl ?_
          obtain ⟨h46, hT⟩ := hT
          refine g_lald (npc := 77) dX5_fillEdge_76 rfl (arSL (rwSC_44 h45)) h46 ?_
          refine g_lconst (npc := 78) (x := 1) dX5_fillEdge_77 rfl (by decide) ?_
          refine g_lsub (npc := 79) dX5_fillEdge_78 rfl ?_
          obtain ⟨h47, hT⟩ := hT
          replace hT := hT _ rfl
          refine g_last (npc := 80) dX5_fillEdge_79 rfl (arSL (rwSC_44 h45)) h47  ?_
          exact g_ret dX5_fillEdge_80 rfl (by decide) ⟨rfl, hT⟩
    obtain ⟨h25, hTt, hTf⟩ := hT
    refine g_if_eq (npc := 28) (tgt := 40) dX5_fillEdge_25 rfl (by decide) h25 (fun c26 => ?_) (fun c26 => ?_)
    · replace hT := hTt c26
      exact K50 _ hT
    · replace hT := hTf c26
      refine g_aload_n (npc := 29) dX5_fillEdge_28 rfl rfl rfl ?_
      refine gf_Ma_21 (npc := 32) dX5_fillEdge_29 rfl rfl ?_
      refine g_iload_n (npc := 33) dX5_fillEdge_32 rfl rfl rfl ?_
      obtain ⟨h51, hT⟩ := hT
      refine g_aald6 (npc := 34) dX5_fillEdge_33 rfl (arSL arSC_44) h51 (frSC_44 h51) ?_
      refine g_iload_n (npc := 35) dX5_fillEdge_34 rfl rfl rfl ?_
      refine g_dup2 (npc := 36) dX5_fillEdge_35 rfl rfl rfl ?_
      obtain ⟨h52, hT⟩ := hT
      refine g_lald (npc := 37) dX5_fillEdge_36 rfl (arSL (rwSC_44 h51)) h52 ?_
      refine g_lconst (npc := 38) (x := 1) dX5_fillEdge_37 rfl (by decide) ?_
      refine g_ladd (npc := 39) dX5_fillEdge_38 rfl ?_
      obtain ⟨h53, hT⟩ := hT
      replace hT := hT _ rfl
      refine g_last (npc := 40) dX5_fillEdge_39 rfl (arSL (rwSC_44 h51)) h53  ?_
      exact K50 _ hT
  obtain ⟨h12, hTt, hTf⟩ := hT
  refine g_if_eq (npc := 8) (tgt := 20) dX5_fillEdge_5 rfl (by decide) h12 (fun c13 => ?_) (fun c13 => ?_)
  · replace hT := hTt c13
    exact K57 _ hT
  · replace hT := hTf c13
    refine g_aload_n (npc := 9) dX5_fillEdge_8 rfl rfl rfl ?_
    refine gf_Ma_21 (npc := 12) dX5_fillEdge_9 rfl rfl ?_
    refine g_iload_n (npc := 13) dX5_fillEdge_12 rfl rfl rfl ?_
    obtain ⟨h58, hT⟩ := hT
    refine g_aald6 (npc := 14) dX5_fillEdge_13 rfl (arSL arSC_44) h58 (frSC_44 h58) ?_
    refine g_iload_n (npc := 15) dX5_fillEdge_14 rfl rfl rfl ?_
    refine g_dup2 (npc := 16) dX5_fillEdge_15 rfl rfl rfl ?_
    obtain ⟨h59, hT⟩ := hT
    refine g_lald (npc := 17) dX5_fillEdge_16 rfl (arSL (rwSC_44 h58)) h59 ?_
    refine g_lconst (npc := 18) (x := 1) dX5_fillEdge_17 rfl (by decide) ?_
    refine g_ladd (npc := 19) dX5_fillEdge_18 rfl ?_
    obtain ⟨h60, hT⟩ := hT
    replace hT := hT _ rfl
    refine g_last (npc := 20) dX5_fillEdge_19 rfl (arSL (rwSC_44 h58)) h60  ?_
    exact K57 _ hT
abbrev H_Ma_fill_13 (n : Nat) (Q : Sto → Prop) (x1 : Int) (x2 : Int) (s : Sto) : Prop := Go (SL n) M_Ma_fill (fV0 Q) 0 0 13 [(0, .ref 42), (1, iV x1), (2, iV x2)] [] s
abbrev H_Ma_fill_23 (n : Nat) (Q : Sto → Prop) (x1 : Int) (x2 : Int) (x3 : Int) (s : Sto) : Prop := Go (SL n) M_Ma_fill (fV0 Q) 0 0 23 [(0, .ref 42), (1, iV x1), (2, iV x2), (3, iV x3)] [] s
abbrev H_Ma_fill_71 (n : Nat) (Q : Sto → Prop) (x1 : Int) (x2 : Int) (s : Sto) : Prop := Go (SL n) M_Ma_fill (fV0 Q) 0 0 71 [(0, .ref 42), (1, iV x1), (2, iV x2)] [] s
set_option maxRecDepth 20000 in
theorem b_Ma_fill_13 {n : Nat} {Q : Sto → Prop} {x1 : Int} {x2 : Int} {s : Sto} (hT : ((-2147483648 ≤ x2 ∧ x2 < 2147483648) ∧ -2147483648 ≤ (s 42 4) ∧ (s 42 4) < 2147483648) ∧ (((s 42 4) ≤ x2) → H_Ma_fill_71 n Q x1 0 s) ∧ ((x2 < (s 42 4)) → H_Ma_fill_23 n Q x1 x2 0 s)) : H_Ma_fill_13 n Q x1 x2 s := by
  refine g_iload_n (npc := 14) dX5_fill_13 rfl rfl rfl ?_
  refine g_aload_n (npc := 15) dX5_fill_14 rfl rfl rfl ?_
  refine gf_Ma_24 (npc := 18) dX5_fill_15 rfl rfl ?_
  obtain ⟨h2, hTt, hTf⟩ := hT
  refine g_icmp_ge (npc := 21) (tgt := 69) dX5_fill_18 rfl (by decide) h2 (fun c3 => ?_) (fun c3 => ?_)
  · replace hT := hTt c3
    refine g_iconst (npc := 70) dX5_fill_69 rfl ?_
    refine g_istore_n (npc := 71) (l' := [(0, .ref 42), (1, iV x1), (2, iV 0)]) dX5_fill_70 rfl rfl (by decide) rfl ?_
    exact hT
  · replace hT := hTf (Int.not_le.mp c3)
    refine g_iconst (npc := 22) dX5_fill_21 rfl ?_
    refine g_istore_n (npc := 23) (l' := [(0, .ref 42), (1, iV x1), (2, iV x2), (3, iV 0)]) dX5_fill_22 rfl rfl (by decide) rfl ?_
    exact hT
set_option maxRecDepth 20000 in
theorem b_Ma_fill_23 {n : Nat} {Q : Sto → Prop} {x1 : Int} {x2 : Int} {x3 : Int} {s : Sto} (hT : ((-2147483648 ≤ x3 ∧ x3 < 2147483648) ∧ -2147483648 ≤ (s 42 4) ∧ (s 42 4) < 2147483648) ∧ (((s 42 4) < x3) → H_Ma_fill_13 n Q x1 (x2 + 1) s) ∧ ((x3 ≤ (s 42 4)) → (0 ≤ x2 ∧ x2 < 8) ∧ ((-2147483648 ≤ x2 ∧ x2 < 2147483648) ∧ -2147483648 ≤ x3 ∧ x3 < 2147483648) ∧ ((¬ x2 = x3) → (0 ≤ x3 ∧ x3 < 9) ∧ ∀ s25, s25 = up s (45 + Int.toNat x2) (Int.toNat x3) 0 → H_Ma_fill_23 n Q x1 x2 (x3 + 1) s25) ∧ ((x2 = x3) → ∃ Q26 : Int → Sto → Prop, K_Ma_isFree n x2 s Q26 ∧ ∀ r29 s28, Q26 r29 s28 → (-2147483648 ≤ r29 ∧ r29 < 2147483648) ∧ ((¬ r29 = 0) → (0 ≤ x3 ∧ x3 < 9) ∧ ∀ s34, s34 = up s28 (45 + Int.toNat x2) (Int.toNat x3) 0 → H_Ma_fill_23 n Q x1 x2 (x3 + 1) s34) ∧ ((r29 = 0) → (0 ≤ x3 ∧ x3 < 9) ∧ ∀ s36, s36 = up s28 (45 + Int.toNat x2) (Int.toNat x3) 1 → H_Ma_fill_23 n Q x1 x2 (x3 + 1) s36)))) : H_Ma_fill_23 n Q x1 x2 x3 s := by
  refine g_iload_n (npc := 24) dX5_fill_23 rfl rfl rfl ?_
  refine g_aload_n (npc := 25) dX5_fill_24 rfl rfl rfl ?_
  refine gf_Ma_24 (npc := 28) dX5_fill_25 rfl rfl ?_
  obtain ⟨h19, hTt, hTf⟩ := hT
  refine g_icmp_gt (npc := 31) (tgt := 63) dX5_fill_28 rfl (by decide) h19 (fun c20 => ?_) (fun c20 => ?_)
  · replace hT := hTt c20
    refine g_iinc (npc := 66) (y := (x2 + 1)) (l' := [(0, .ref 42), (1, iV x1), (2, iV (x2 + 1)), (3, iV x3)]) dX5_fill_63 rfl (by decide) rfl (by omega) rfl ?_
    refine g_goto (npc := 13) dX5_fill_66 (by decide) ?_
    refine Go.lsub [0, 1, 2] rfl ?_
    exact hT
  · replace hT := hTf (Int.not_lt.mp c20)
    refine g_aload_n (npc := 32) dX5_fill_31 rfl rfl rfl ?_
    refine gf_Ma_21 (npc := 35) dX5_fill_32 rfl rfl ?_
    refine g_iload_n (npc := 36) dX5_fill_35 rfl rfl rfl ?_
    obtain ⟨h21, hT⟩ := hT
    refine g_aald6 (npc := 37) dX5_fill_36 rfl (arSL arSC_44) h21 (frSC_44 h21) ?_
    refine g_iload_n (npc := 38) dX5_fill_37 rfl rfl rfl ?_
    refine g_iload_n (npc := 39) dX5_fill_38 rfl rfl rfl ?_
    refine g_iload_n (npc := 40) dX5_fill_39 rfl rfl rfl ?_
    obtain ⟨h22, hTt, hTf⟩ := hT
    refine g_icmp_ne (npc := 43) (tgt := 55) dX5_fill_40 rfl (by decide) h22 (fun c23 => ?_) (fun c23 => ?_)
    · replace hT := hTt c23
      refine g_lconst (npc := 56) (x := 0) dX5_fill_55 rfl (by decide) ?_
      obtain ⟨h24, hT⟩ := hT
      replace hT := hT _ rfl
      refine g_last (npc := 57) dX5_fill_56 rfl (arSL (rwSC_44 h21)) h24  ?_
      refine g_iinc (npc := 60) (y := (x3 + 1)) (l' := [(0, .ref 42), (1, iV x1), (2, iV x2), (3, iV (x3 + 1))]) dX5_fill_57 rfl (by decide) rfl (by omega) rfl ?_
      refine g_goto (npc := 23) dX5_fill_60 (by decide) ?_
      exact hT
    · replace hT := hTf (Decidable.not_not.mp c23)
      refine g_aload_n (npc := 44) dX5_fill_43 rfl rfl rfl ?_
      refine g_iload_n (npc := 45) dX5_fill_44 rfl rfl rfl ?_
      obtain ⟨Q26, h27, hT⟩ := hT
      refine iv_Ma_36 (npc := 48) dX5_fill_45 rfl rfl (Nat.le_of_ble_eq_true rfl) (by decide) (by decide) h27 (fun r29 s28 e30 => ?_)
      replace hT := hT r29 s28 e30
      obtain ⟨h31, hTt, hTf⟩ := hT
      refine g_if_ne (npc := 51) (tgt := 55) dX5_fill_48 rfl (by decide) h31 (fun c32 => ?_) (fun c32 => ?_)
      · replace hT := hTt c32
        refine g_lconst (npc := 56) (x := 0) dX5_fill_55 rfl (by decide) ?_
        obtain ⟨h33, hT⟩ := hT
        replace hT := hT _ rfl
        refine g_last (npc := 57) dX5_fill_56 rfl (arSL (rwSC_44 h21)) h33  ?_
        refine g_iinc (npc := 60) (y := (x3 + 1)) (l' := [(0, .ref 42), (1, iV x1), (2, iV x2), (3, iV (x3 + 1))]) dX5_fill_57 rfl (by decide) rfl (by omega) rfl ?_
        refine g_goto (npc := 23) dX5_fill_60 (by decide) ?_
        exact hT
      · replace hT := hTf (Decidable.not_not.mp c32)
        refine g_lconst (npc := 52) (x := 1) dX5_fill_51 rfl (by decide) ?_
        refine g_goto (npc := 56) dX5_fill_52 (by decide) ?_
        obtain ⟨h35, hT⟩ := hT
        replace hT := hT _ rfl
        refine g_last (npc := 57) dX5_fill_56 rfl (arSL (rwSC_44 h21)) h35  ?_
        refine g_iinc (npc := 60) (y := (x3 + 1)) (l' := [(0, .ref 42), (1, iV x1), (2, iV x2), (3, iV (x3 + 1))]) dX5_fill_57 rfl (by decide) rfl (by omega) rfl ?_
        refine g_goto (npc := 23) dX5_fill_60 (by decide) ?_
        exact hT
set_option maxRecDepth 20000 in
theorem b_Ma_fill_71 {n : Nat} {Q : Sto → Prop} {x1 : Int} {x2 : Int} {s : Sto} (hT : ((-2147483648 ≤ x2 ∧ x2 < 2147483648) ∧ -2147483648 ≤ (s 1 1) ∧ (s 1 1) < 2147483648) ∧ (((s 1 1) ≤ x2) → Q s) ∧ ((x2 < (s 1 1)) → (0 ≤ x2 ∧ x2 < 20) ∧ (0 ≤ (s 2 (Int.toNat x2)) ∧ (s 2 (Int.toNat x2)) < 8) ∧ (0 ≤ x2 ∧ x2 < 20) ∧ (0 ≤ (s 3 (Int.toNat x2)) ∧ (s 3 (Int.toNat x2)) < 8) ∧ (-2147483648 ≤ (iand (ishr x1 x2) 1) ∧ (iand (ishr x1 x2) 1) < 2147483648) ∧ ((¬ (iand (ishr x1 x2) 1) = 0) → H_Ma_fill_71 n Q x1 (x2 + 1) s) ∧ (((iand (ishr x1 x2) 1) = 0) → ((-2147483648 ≤ (s 14 (Int.toNat (s 2 (Int.toNat x2)))) ∧ (s 14 (Int.toNat (s 2 (Int.toNat x2)))) < 2147483648) ∧ -2147483648 ≤ (s 14 (Int.toNat (s 3 (Int.toNat x2)))) ∧ (s 14 (Int.toNat (s 3 (Int.toNat x2)))) < 2147483648) ∧ (((s 14 (Int.toNat (s 2 (Int.toNat x2)))) = (s 14 (Int.toNat (s 3 (Int.toNat x2))))) → H_Ma_fill_71 n Q x1 (x2 + 1) s) ∧ ((¬ (s 14 (Int.toNat (s 2 (Int.toNat x2)))) = (s 14 (Int.toNat (s 3 (Int.toNat x2))))) → ∃ Q14 : Sto → Prop, K_Ma_fillEdge n (s 14 (Int.toNat (s 2 (Int.toNat x2)))) (s 14 (Int.toNat (s 3 (Int.toNat x2)))) s Q14 ∧ ∀ s16, Q14 s16 → H_Ma_fill_71 n Q x1 (x2 + 1) s16)))) : H_Ma_fill_71 n Q x1 x2 s := by
  refine g_iload_n (npc := 72) dX5_fill_71 rfl rfl rfl ?_
  refine g_aload_n (npc := 73) dX5_fill_72 rfl rfl rfl ?_
  refine gf_Ma_27 (npc := 76) dX5_fill_73 rfl rfl ?_
  refine gf_Ma_40 (npc := 79) dX5_fill_76 rfl rfl ?_
  obtain ⟨h4, hTt, hTf⟩ := hT
  refine g_icmp_ge (npc := 82) (tgt := 146) dX5_fill_79 rfl (by decide) h4 (fun c5 => ?_) (fun c5 => ?_)
  · replace hT := hTt c5
    exact g_ret dX5_fill_146 rfl (by decide) ⟨rfl, hT⟩
  · replace hT := hTf (Int.not_le.mp c5)
    refine g_aload_n (npc := 83) dX5_fill_82 rfl rfl rfl ?_
    refine gf_Ma_27 (npc := 86) dX5_fill_83 rfl rfl ?_
    refine gf_Ma_43 (npc := 89) dX5_fill_86 rfl rfl ?_
    refine g_aload_n (npc := 90) dX5_fill_89 rfl rfl rfl ?_
    refine gf_Ma_27 (npc := 93) dX5_fill_90 rfl rfl ?_
    refine gf_Ma_47 (npc := 96) dX5_fill_93 rfl rfl ?_
    refine g_iload_n (npc := 97) dX5_fill_96 rfl rfl rfl ?_
    obtain ⟨h6, hT⟩ := hT
    refine g_iald (npc := 98) dX5_fill_97 rfl (arSL arSC_2) h6 ?_
    obtain ⟨h7, hT⟩ := hT
    refine g_iald (npc := 99) dX5_fill_98 rfl (arSL arSC_14) h7 ?_
    refine g_istore_n (npc := 100) (l' := [(0, .ref 42), (1, iV x1), (2, iV x2), (3, iV (s 14 (Int.toNat (s 2 (Int.toNat x2)))))]) dX5_fill_99 rfl rfl (by decide) rfl ?_
    refine g_aload_n (npc := 101) dX5_fill_100 rfl rfl rfl ?_
    refine gf_Ma_27 (npc := 104) dX5_fill_101 rfl rfl ?_
    refine gf_Ma_43 (npc := 107) dX5_fill_104 rfl rfl ?_
    refine g_aload_n (npc := 108) dX5_fill_107 rfl rfl rfl ?_
    refine gf_Ma_27 (npc := 111) dX5_fill_108 rfl rfl ?_
    refine gf_Ma_50 (npc := 114) dX5_fill_111 rfl rfl ?_
    refine g_iload_n (npc := 115) dX5_fill_114 rfl rfl rfl ?_
    obtain ⟨h8, hT⟩ := hT
    refine g_iald (npc := 116) dX5_fill_115 rfl (arSL arSC_3) h8 ?_
    obtain ⟨h9, hT⟩ := hT
    refine g_iald (npc := 117) dX5_fill_116 rfl (arSL arSC_14) h9 ?_
    refine g_istore (npc := 119) (l' := [(0, .ref 42), (1, iV x1), (2, iV x2), (3, iV (s 14 (Int.toNat (s 2 (Int.toNat x2))))), (4, iV (s 14 (Int.toNat (s 3 (Int.toNat x2)))))]) dX5_fill_117 rfl (by decide) rfl ?_
    refine g_iload_n (npc := 120) dX5_fill_119 rfl rfl rfl ?_
    refine g_iload_n (npc := 121) dX5_fill_120 rfl rfl rfl ?_
    refine g_ishr (npc := 122) dX5_fill_121 rfl ?_
    refine g_iconst (npc := 123) dX5_fill_122 rfl ?_
    refine g_iand (npc := 124) dX5_fill_123 rfl ?_
    obtain ⟨h10, hTt, hTf⟩ := hT
    refine g_if_ne (npc := 127) (tgt := 140) dX5_fill_124 rfl (by decide) h10 (fun c11 => ?_) (fun c11 => ?_)
    · replace hT := hTt c11
      refine g_iinc (npc := 143) (y := (x2 + 1)) (l' := [(0, .ref 42), (1, iV x1), (2, iV (x2 + 1)), (3, iV (s 14 (Int.toNat (s 2 (Int.toNat x2))))), (4, iV (s 14 (Int.toNat (s 3 (Int.toNat x2)))))]) dX5_fill_140 rfl (by decide) rfl (by omega) rfl ?_
      refine g_goto (npc := 71) dX5_fill_143 (by decide) ?_
      refine Go.lsub [0, 1, 2] rfl ?_
      exact hT
    · replace hT := hTf (Decidable.not_not.mp c11)
      refine g_iload_n (npc := 128) dX5_fill_127 rfl rfl rfl ?_
      refine g_iload (npc := 130) dX5_fill_128 rfl rfl ?_
      obtain ⟨h12, hTt, hTf⟩ := hT
      refine g_icmp_eq (npc := 133) (tgt := 140) dX5_fill_130 rfl (by decide) h12 (fun c13 => ?_) (fun c13 => ?_)
      · replace hT := hTt c13
        refine g_iinc (npc := 143) (y := (x2 + 1)) (l' := [(0, .ref 42), (1, iV x1), (2, iV (x2 + 1)), (3, iV (s 14 (Int.toNat (s 2 (Int.toNat x2))))), (4, iV (s 14 (Int.toNat (s 3 (Int.toNat x2)))))]) dX5_fill_140 rfl (by decide) rfl (by omega) rfl ?_
        refine g_goto (npc := 71) dX5_fill_143 (by decide) ?_
        refine Go.lsub [0, 1, 2] rfl ?_
        exact hT
      · replace hT := hTf c13
        refine g_aload_n (npc := 134) dX5_fill_133 rfl rfl rfl ?_
        refine g_iload_n (npc := 135) dX5_fill_134 rfl rfl rfl ?_
        refine g_iload (npc := 137) dX5_fill_135 rfl rfl ?_
        obtain ⟨Q14, h15, hT⟩ := hT
        refine iv_Ma_53 (npc := 140) dX5_fill_137 rfl rfl (Nat.le_of_ble_eq_true rfl) (by decide) (by decide) h15 (fun s16 e18 => ?_)
        replace hT := hT s16 e18
        refine g_iinc (npc := 143) (y := (x2 + 1)) (l' := [(0, .ref 42), (1, iV x1), (2, iV (x2 + 1)), (3, iV (s 14 (Int.toNat (s 2 (Int.toNat x2))))), (4, iV (s 14 (Int.toNat (s 3 (Int.toNat x2)))))]) dX5_fill_140 rfl (by decide) rfl (by omega) rfl ?_
        refine g_goto (npc := 71) dX5_fill_143 (by decide) ?_
        refine Go.lsub [0, 1, 2] rfl ?_
        exact hT
set_option maxRecDepth 20000 in
theorem e_Ma_fill {n : Nat} {x1 : Int} {s : Sto} {Q : Sto → Prop} (hT : ∀ s1, s1 = up s 42 4 (s 1 0) → H_Ma_fill_13 n Q x1 0 s1) : K_Ma_fill n x1 s Q := by
  refine Sp.body (by decide +kernel) (Nat.le_of_ble_eq_true rfl) ?_
  show Go (SL n) M_Ma_fill (fV0 Q) 0 0 0 [(0, .ref 42), (1, iV x1)] [] s
  refine g_aload_n (npc := 1) dX5_fill_0 rfl rfl rfl ?_
  refine g_aload_n (npc := 2) dX5_fill_1 rfl rfl rfl ?_
  refine gf_Ma_27 (npc := 5) dX5_fill_2 rfl rfl ?_
  refine gf_Ma_31 (npc := 8) dX5_fill_5 rfl rfl ?_
  replace hT := hT _ rfl
  refine pf_Ma_24 (npc := 11) dX5_fill_8 rfl rfl ?_
  refine g_iconst (npc := 12) dX5_fill_11 rfl ?_
  refine g_istore_n (npc := 13) (l' := [(0, .ref 42), (1, iV x1), (2, iV 0)]) dX5_fill_12 rfl rfl (by decide) rfl ?_
  exact hT
abbrev H_Ma_combineRows_30 (n : Nat) (Q : Sto → Prop) (x1 : Int) (x2 : Int) (x3 : Int) (x5 : Int) (x7 : Int) (x9 : Int) (s : Sto) : Prop := Go (SL n) M_Ma_combineRows (fV0 Q) 0 0 30 [(0, .ref 42), (1, iV x1), (2, iV x2), (3, jV x3), (5, jV x5), (7, jV x7), (9, iV x9)] [] s
set_option maxRecDepth 20000 in
theorem b_Ma_combineRows_30 {n : Nat} {Q : Sto → Prop} {x1 : Int} {x2 : Int} {x3 : Int} {x5 : Int} {x7 : Int} {x9 : Int} {s : Sto} (hT : ((-2147483648 ≤ x9 ∧ x9 < 2147483648) ∧ -2147483648 ≤ (s 42 4) ∧ (s 42 4) < 2147483648) ∧ (((s 42 4) < x9) → Q s) ∧ ((x9 ≤ (s 42 4)) → (0 ≤ x1 ∧ x1 < 8) ∧ (0 ≤ x1 ∧ x1 < 8) ∧ (0 ≤ x9 ∧ x9 < 9) ∧ (0 ≤ x2 ∧ x2 < 8) ∧ (0 ≤ x9 ∧ x9 < 9) ∧ (((-9223372036854775808 ≤ ((x5 * (s (45 + Int.toNat x1) (Int.toNat x9))) - (x7 * (s (45 + Int.toNat x2) (Int.toNat x9)))) ∧ ((x5 * (s (45 + Int.toNat x1) (Int.toNat x9))) - (x7 * (s (45 + Int.toNat x2) (Int.toNat x9)))) < 9223372036854775808) ∧ -9223372036854775808 ≤ x3 ∧ x3 < 9223372036854775808) ∧ ¬ x3 = 0) ∧ (0 ≤ x9 ∧ x9 < 9) ∧ ∀ s16, s16 = up s (45 + Int.toNat x1) (Int.toNat x9) (Int.tdiv ((x5 * (s (45 + Int.toNat x1) (Int.toNat x9))) - (x7 * (s (45 + Int.toNat x2) (Int.toNat x9)))) x3) → H_Ma_combineRows_30 n Q x1 x2 x3 x5 x7 (x9 + 1) s16)) : H_Ma_combineRows_30 n Q x1 x2 x3 x5 x7 x9 s := by
  refine g_iload (npc := 32) dX5_combineRows_30 rfl rfl ?_
  refine g_aload_n (npc := 33) dX5_combineRows_32 rfl rfl rfl ?_
  refine gf_Ma_24 (npc := 36) dX5_combineRows_33 rfl rfl ?_
  obtain ⟨h7, hTt, hTf⟩ := hT
  refine g_icmp_gt (npc := 39) (tgt := 81) dX5_combineRows_36 rfl (by decide) h7 (fun c8 => ?_) (fun c8 => ?_)
  · replace hT := hTt c8
    exact g_ret dX5_combineRows_81 rfl (by decide) ⟨rfl, hT⟩
  · replace hT := hTf (Int.not_lt.mp c8)
    refine g_aload_n (npc := 40) dX5_combineRows_39 rfl rfl rfl ?_
    refine gf_Ma_21 (npc := 43) dX5_combineRows_40 rfl rfl ?_
    refine g_iload_n (npc := 44) dX5_combineRows_43 rfl rfl rfl ?_
    obtain ⟨h9, hT⟩ := hT
    refine g_aald6 (npc := 45) dX5_combineRows_44 rfl (arSL arSC_44) h9 (frSC_44 h9) ?_
    refine g_iload (npc := 47) dX5_combineRows_45 rfl rfl ?_
    refine g_lload (npc := 49) dX5_combineRows_47 rfl rfl ?_
    refine g_aload_n (npc := 50) dX5_combineRows_49 rfl rfl rfl ?_
    refine gf_Ma_21 (npc := 53) dX5_combineRows_50 rfl rfl ?_
    refine g_iload_n (npc := 54) dX5_combineRows_53 rfl rfl rfl ?_
    obtain ⟨h10, hT⟩ := hT
    refine g_aald6 (npc := 55) dX5_combineRows_54 rfl (arSL arSC_44) h10 (frSC_44 h10) ?_
    refine g_iload (npc := 57) dX5_combineRows_55 rfl rfl ?_
    obtain ⟨h11, hT⟩ := hT
    refine g_lald (npc := 58) dX5_combineRows_57 rfl (arSL (rwSC_44 h10)) h11 ?_
    refine g_lmul (npc := 59) dX5_combineRows_58 rfl ?_
    refine g_lload (npc := 61) dX5_combineRows_59 rfl rfl ?_
    refine g_aload_n (npc := 62) dX5_combineRows_61 rfl rfl rfl ?_
    refine gf_Ma_21 (npc := 65) dX5_combineRows_62 rfl rfl ?_
    refine g_iload_n (npc := 66) dX5_combineRows_65 rfl rfl rfl ?_
    obtain ⟨h12, hT⟩ := hT
    refine g_aald6 (npc := 67) dX5_combineRows_66 rfl (arSL arSC_44) h12 (frSC_44 h12) ?_
    refine g_iload (npc := 69) dX5_combineRows_67 rfl rfl ?_
    obtain ⟨h13, hT⟩ := hT
    refine g_lald (npc := 70) dX5_combineRows_69 rfl (arSL (rwSC_44 h12)) h13 ?_
    refine g_lmul (npc := 71) dX5_combineRows_70 rfl ?_
    refine g_lsub (npc := 72) dX5_combineRows_71 rfl ?_
    refine g_lload_n (npc := 73) dX5_combineRows_72 rfl rfl rfl ?_
    obtain ⟨h14, hT⟩ := hT
    refine g_ldiv (npc := 74) dX5_combineRows_73 rfl h14.1 h14.2 ?_
    obtain ⟨h15, hT⟩ := hT
    replace hT := hT _ rfl
    refine g_last (npc := 75) dX5_combineRows_74 rfl (arSL (rwSC_44 h9)) h15  ?_
    refine g_iinc (npc := 78) (y := (x9 + 1)) (l' := [(0, .ref 42), (1, iV x1), (2, iV x2), (3, jV x3), (5, jV x5), (7, jV x7), (9, iV (x9 + 1))]) dX5_combineRows_75 rfl (by decide) rfl (by omega) rfl ?_
    refine g_goto (npc := 30) dX5_combineRows_78 (by decide) ?_
    exact hT
set_option maxRecDepth 20000 in
theorem e_Ma_combineRows {n : Nat} {x1 : Int} {x2 : Int} {x3 : Int} {s : Sto} {Q : Sto → Prop} (hT : (-9223372036854775808 ≤ x3 ∧ x3 < 9223372036854775808) ∧ ((¬ x3 = 0) → (0 ≤ x2 ∧ x2 < 8) ∧ (0 ≤ x2 ∧ x2 < 9) ∧ (0 ≤ x1 ∧ x1 < 8) ∧ (0 ≤ x2 ∧ x2 < 9) ∧ H_Ma_combineRows_30 n Q x1 x2 x3 (s (45 + Int.toNat x2) (Int.toNat x2)) (s (45 + Int.toNat x1) (Int.toNat x2)) 0 s) ∧ ((x3 = 0) → Q s)) : K_Ma_combineRows n x1 x2 x3 s Q := by
  refine Sp.body (by decide +kernel) (Nat.le_of_ble_eq_true rfl) ?_
  show Go (SL n) M_Ma_combineRows (fV0 Q) 0 0 0 [(0, .ref 42), (1, iV x1), (2, iV x2), (3, jV x3)] [] s
  refine g_lload_n (npc := 1) dX5_combineRows_0 rfl rfl rfl ?_
  refine g_lconst (npc := 2) (x := 0) dX5_combineRows_1 rfl (by decide) ?_
  obtain ⟨h1, hTt, hTf⟩ := hT
  refine g_lne (pc2 := 3) (npc := 6) (tgt := 7) dX5_combineRows_2 rfl dX5_combineRows_3 rfl (by decide) ⟨h1, by decide, by decide⟩ (fun c2 => ?_) (fun c2 => ?_)
  · replace hT := hTt c2
    refine g_aload_n (npc := 8) dX5_combineRows_7 rfl rfl rfl ?_
    refine gf_Ma_21 (npc := 11) dX5_combineRows_8 rfl rfl ?_
    refine g_iload_n (npc := 12) dX5_combineRows_11 rfl rfl rfl ?_
    obtain ⟨h3, hT⟩ := hT
    refine g_aald6 (npc := 13) dX5_combineRows_12 rfl (arSL arSC_44) h3 (frSC_44 h3) ?_
    refine g_iload_n (npc := 14) dX5_combineRows_13 rfl rfl rfl ?_
    obtain ⟨h4, hT⟩ := hT
    refine g_lald (npc := 15) dX5_combineRows_14 rfl (arSL (rwSC_44 h3)) h4 ?_
    refine g_lstore (npc := 17) (l' := [(0, .ref 42), (1, iV x1), (2, iV x2), (3, jV x3), (5, jV (s (45 + Int.toNat x2) (Int.toNat x2)))]) dX5_combineRows_15 rfl (by decide) rfl ?_
    refine g_aload_n (npc := 18) dX5_combineRows_17 rfl rfl rfl ?_
    refine gf_Ma_21 (npc := 21) dX5_combineRows_18 rfl rfl ?_
    refine g_iload_n (npc := 22) dX5_combineRows_21 rfl rfl rfl ?_
    obtain ⟨h5, hT⟩ := hT
    refine g_aald6 (npc := 23) dX5_combineRows_22 rfl (arSL arSC_44) h5 (frSC_44 h5) ?_
    refine g_iload_n (npc := 24) dX5_combineRows_23 rfl rfl rfl ?_
    obtain ⟨h6, hT⟩ := hT
    refine g_lald (npc := 25) dX5_combineRows_24 rfl (arSL (rwSC_44 h5)) h6 ?_
    refine g_lstore (npc := 27) (l' := [(0, .ref 42), (1, iV x1), (2, iV x2), (3, jV x3), (5, jV (s (45 + Int.toNat x2) (Int.toNat x2))), (7, jV (s (45 + Int.toNat x1) (Int.toNat x2)))]) dX5_combineRows_25 rfl (by decide) rfl ?_
    refine g_iconst (npc := 28) dX5_combineRows_27 rfl ?_
    refine g_istore (npc := 30) (l' := [(0, .ref 42), (1, iV x1), (2, iV x2), (3, jV x3), (5, jV (s (45 + Int.toNat x2) (Int.toNat x2))), (7, jV (s (45 + Int.toNat x1) (Int.toNat x2))), (9, iV 0)]) dX5_combineRows_28 rfl (by decide) rfl ?_
    exact hT
  · replace hT := hTf (Decidable.not_not.mp c2)
    exact g_ret dX5_combineRows_6 rfl (by decide) ⟨rfl, hT⟩
abbrev H_Ma_eliminate_4 (n : Nat) (Q : Int → Sto → Prop) (x1 : Int) (x3 : Int) (s : Sto) : Prop := Go (SL n) M_Ma_eliminate (fJ Q) 0 0 4 [(0, .ref 42), (1, jV x1), (3, iV x3)] [] s
abbrev H_Ma_eliminate_34 (n : Nat) (Q : Int → Sto → Prop) (x1 : Int) (x3 : Int) (x4 : Int) (x6 : Int) (s : Sto) : Prop := Go (SL n) M_Ma_eliminate (fJ Q) 0 0 34 [(0, .ref 42), (1, jV x1), (3, iV x3), (4, jV x4), (6, iV x6)] [] s
set_option maxRecDepth 20000 in
theorem b_Ma_eliminate_4 {n : Nat} {Q : Int → Sto → Prop} {x1 : Int} {x3 : Int} {s : Sto} (hT : ((-2147483648 ≤ x3 ∧ x3 < 2147483648) ∧ -2147483648 ≤ (s 42 4) ∧ (s 42 4) < 2147483648) ∧ (((s 42 4) ≤ x3) → Q x1 s) ∧ ((x3 < (s 42 4)) → (0 ≤ x3 ∧ x3 < 8) ∧ (0 ≤ x3 ∧ x3 < 9) ∧ (-9223372036854775808 ≤ (s (45 + Int.toNat x3) (Int.toNat x3)) ∧ (s (45 + Int.toNat x3) (Int.toNat x3)) < 9223372036854775808) ∧ ((¬ (s (45 + Int.toNat x3) (Int.toNat x3)) = 0) → H_Ma_eliminate_34 n Q x1 x3 (s (45 + Int.toNat x3) (Int.toNat x3)) 0 s) ∧ (((s (45 + Int.toNat x3) (Int.toNat x3)) = 0) → Q 0 s))) : H_Ma_eliminate_4 n Q x1 x3 s := by
  refine g_iload_n (npc := 5) dX5_eliminate_4 rfl rfl rfl ?_
  refine g_aload_n (npc := 6) dX5_eliminate_5 rfl rfl rfl ?_
  refine gf_Ma_24 (npc := 9) dX5_eliminate_6 rfl rfl ?_
  obtain ⟨h1, hTt, hTf⟩ := hT
  refine g_icmp_ge (npc := 12) (tgt := 72) dX5_eliminate_9 rfl (by decide) h1 (fun c2 => ?_) (fun c2 => ?_)
  · replace hT := hTt c2
    refine g_lload_n (npc := 73) dX5_eliminate_72 rfl rfl rfl ?_
    exact g_lret dX5_eliminate_73 rfl (by decide) ⟨_, rfl, hT⟩
  · replace hT := hTf (Int.not_le.mp c2)
    refine g_aload_n (npc := 13) dX5_eliminate_12 rfl rfl rfl ?_
    refine gf_Ma_21 (npc := 16) dX5_eliminate_13 rfl rfl ?_
    refine g_iload_n (npc := 17) dX5_eliminate_16 rfl rfl rfl ?_
    obtain ⟨h3, hT⟩ := hT
    refine g_aald6 (npc := 18) dX5_eliminate_17 rfl (arSL arSC_44) h3 (frSC_44 h3) ?_
    refine g_iload_n (npc := 19) dX5_eliminate_18 rfl rfl rfl ?_
    obtain ⟨h4, hT⟩ := hT
    refine g_lald (npc := 20) dX5_eliminate_19 rfl (arSL (rwSC_44 h3)) h4 ?_
    refine g_lstore (npc := 22) (l' := [(0, .ref 42), (1, jV x1), (3, iV x3), (4, jV (s (45 + Int.toNat x3) (Int.toNat x3)))]) dX5_eliminate_20 rfl (by decide) rfl ?_
    refine g_lload (npc := 24) dX5_eliminate_22 rfl rfl ?_
    refine g_lconst (npc := 25) (x := 0) dX5_eliminate_24 rfl (by decide) ?_
    obtain ⟨h5, hTt, hTf⟩ := hT
    refine g_lne (pc2 := 26) (npc := 29) (tgt := 31) dX5_eliminate_25 rfl dX5_eliminate_26 rfl (by decide) ⟨h5, by decide, by decide⟩ (fun c6 => ?_) (fun c6 => ?_)
    · replace hT := hTt c6
      refine g_iconst (npc := 32) dX5_eliminate_31 rfl ?_
      refine g_istore (npc := 34) (l' := [(0, .ref 42), (1, jV x1), (3, iV x3), (4, jV (s (45 + Int.toNat x3) (Int.toNat x3))), (6, iV 0)]) dX5_eliminate_32 rfl (by decide) rfl ?_
      exact hT
    · replace hT := hTf (Decidable.not_not.mp c6)
      refine g_lconst (npc := 30) (x := 0) dX5_eliminate_29 rfl (by decide) ?_
      exact g_lret dX5_eliminate_30 rfl (by decide) ⟨_, rfl, hT⟩
set_option maxRecDepth 20000 in
theorem b_Ma_eliminate_34 {n : Nat} {Q : Int → Sto → Prop} {x1 : Int} {x3 : Int} {x4 : Int} {x6 : Int} {s : Sto} (hT : ((-2147483648 ≤ x6 ∧ x6 < 2147483648) ∧ -2147483648 ≤ (s 42 4) ∧ (s 42 4) < 2147483648) ∧ (((s 42 4) ≤ x6) → H_Ma_eliminate_4 n Q x4 (x3 + 1) s) ∧ ((x6 < (s 42 4)) → ((-2147483648 ≤ x6 ∧ x6 < 2147483648) ∧ -2147483648 ≤ x3 ∧ x3 < 2147483648) ∧ ((x6 = x3) → H_Ma_eliminate_34 n Q x1 x3 x4 (x6 + 1) s) ∧ ((¬ x6 = x3) → ∃ Q11 : Sto → Prop, K_Ma_combineRows n x6 x3 x1 s Q11 ∧ ∀ s13, Q11 s13 → H_Ma_eliminate_34 n Q x1 x3 x4 (x6 + 1) s13))) : H_Ma_eliminate_34 n Q x1 x3 x4 x6 s := by
  refine g_iload (npc := 36) dX5_eliminate_34 rfl rfl ?_
  refine g_aload_n (npc := 37) dX5_eliminate_36 rfl rfl rfl ?_
  refine gf_Ma_24 (npc := 40) dX5_eliminate_37 rfl rfl ?_
  obtain ⟨h7, hTt, hTf⟩ := hT
  refine g_icmp_ge (npc := 43) (tgt := 63) dX5_eliminate_40 rfl (by decide) h7 (fun c8 => ?_) (fun c8 => ?_)
  · replace hT := hTt c8
    refine g_lload (npc := 65) dX5_eliminate_63 rfl rfl ?_
    refine g_lstore_n (npc := 66) (l' := [(0, .ref 42), (1, jV x4), (3, iV x3), (4, jV x4), (6, iV x6)]) dX5_eliminate_65 rfl rfl (by decide) rfl ?_
    refine g_iinc (npc := 69) (y := (x3 + 1)) (l' := [(0, .ref 42), (1, jV x4), (3, iV (x3 + 1)), (4, jV x4), (6, iV x6)]) dX5_eliminate_66 rfl (by decide) rfl (by omega) rfl ?_
    refine g_goto (npc := 4) dX5_eliminate_69 (by decide) ?_
    refine Go.lsub [0, 1, 2] rfl ?_
    exact hT
  · replace hT := hTf (Int.not_le.mp c8)
    refine g_iload (npc := 45) dX5_eliminate_43 rfl rfl ?_
    refine g_iload_n (npc := 46) dX5_eliminate_45 rfl rfl rfl ?_
    obtain ⟨h9, hTt, hTf⟩ := hT
    refine g_icmp_eq (npc := 49) (tgt := 57) dX5_eliminate_46 rfl (by decide) h9 (fun c10 => ?_) (fun c10 => ?_)
    · replace hT := hTt c10
      refine g_iinc (npc := 60) (y := (x6 + 1)) (l' := [(0, .ref 42), (1, jV x1), (3, iV x3), (4, jV x4), (6, iV (x6 + 1))]) dX5_eliminate_57 rfl (by decide) rfl (by omega) rfl ?_
      refine g_goto (npc := 34) dX5_eliminate_60 (by decide) ?_
      exact hT
    · replace hT := hTf c10
      refine g_aload_n (npc := 50) dX5_eliminate_49 rfl rfl rfl ?_
      refine g_iload (npc := 52) dX5_eliminate_50 rfl rfl ?_
      refine g_iload_n (npc := 53) dX5_eliminate_52 rfl rfl rfl ?_
      refine g_lload_n (npc := 54) dX5_eliminate_53 rfl rfl rfl ?_
      obtain ⟨Q11, h12, hT⟩ := hT
      refine iv_Ma_71 (npc := 57) dX5_eliminate_54 rfl rfl (Nat.le_of_ble_eq_true rfl) (by decide) (by decide) h12 (fun s13 e15 => ?_)
      replace hT := hT s13 e15
      refine g_iinc (npc := 60) (y := (x6 + 1)) (l' := [(0, .ref 42), (1, jV x1), (3, iV x3), (4, jV x4), (6, iV (x6 + 1))]) dX5_eliminate_57 rfl (by decide) rfl (by omega) rfl ?_
      refine g_goto (npc := 34) dX5_eliminate_60 (by decide) ?_
      exact hT
set_option maxRecDepth 20000 in
theorem e_Ma_eliminate {n : Nat} {s : Sto} {Q : Int → Sto → Prop} (hT : H_Ma_eliminate_4 n Q 1 0 s) : K_Ma_eliminate n s Q := by
  refine Sp.body (by decide +kernel) (Nat.le_of_ble_eq_true rfl) ?_
  show Go (SL n) M_Ma_eliminate (fJ Q) 0 0 0 [(0, .ref 42)] [] s
  refine g_lconst (npc := 1) (x := 1) dX5_eliminate_0 rfl (by decide) ?_
  refine g_lstore_n (npc := 2) (l' := [(0, .ref 42), (1, jV 1)]) dX5_eliminate_1 rfl rfl (by decide) rfl ?_
  refine g_iconst (npc := 3) dX5_eliminate_2 rfl ?_
  refine g_istore_n (npc := 4) (l' := [(0, .ref 42), (1, jV 1), (3, iV 0)]) dX5_eliminate_3 rfl rfl (by decide) rfl ?_
  exact hT
set_option maxRecDepth 20000 in
theorem e_Ma_fillWhole {n : Nat} {s : Sto} {Q : Sto → Prop} (hT : ∃ Q1 : Int → Sto → Prop, K_Gr_findParts n 0 s Q1 ∧ ∀ r4 s3, Q1 r4 s3 → ∃ Q6 : Sto → Prop, K_Ma_fill n 0 s3 Q6 ∧ ∀ s8, Q6 s8 → Q s8) : K_Ma_fillWhole n s Q := by
  refine Sp.body (by decide +kernel) (Nat.le_of_ble_eq_true rfl) ?_
  show Go (SL n) M_Ma_fillWhole (fV0 Q) 0 0 0 [(0, .ref 42)] [] s
  refine g_aload_n (npc := 1) dX5_fillWhole_0 rfl rfl rfl ?_
  refine gf_Ma_27 (npc := 4) dX5_fillWhole_1 rfl rfl ?_
  refine g_iconst (npc := 5) dX5_fillWhole_4 rfl ?_
  obtain ⟨Q1, h2, hT⟩ := hT
  refine iv_Ma_63 (npc := 8) dX5_fillWhole_5 rfl rfl (Nat.le_of_ble_eq_true rfl) (by decide) (by decide) h2 (fun r4 s3 e5 => ?_)
  replace hT := hT r4 s3 e5
  refine g_pop (npc := 9) dX5_fillWhole_8 rfl rfl ?_
  refine g_aload_n (npc := 10) dX5_fillWhole_9 rfl rfl rfl ?_
  refine g_iconst (npc := 11) dX5_fillWhole_10 rfl ?_
  obtain ⟨Q6, h7, hT⟩ := hT
  refine iv_Ma_67 (npc := 14) dX5_fillWhole_11 rfl rfl (Nat.le_of_ble_eq_true rfl) (by decide) (by decide) h7 (fun s8 e10 => ?_)
  replace hT := hT s8 e10
  exact g_ret dX5_fillWhole_14 rfl (by decide) ⟨rfl, hT⟩
abbrev H_Ma_commonDivisor_15 (n : Nat) (Q : Int → Sto → Prop) (x4 : Int) (x6 : Int) (x8 : Int) (s : Sto) : Prop := Go (SL n) M_Ma_commonDivisor (fJ Q) 0 0 15 [(4, jV x4), (6, jV x6), (8, iV x8)] [] s
set_option maxRecDepth 20000 in
theorem b_Ma_commonDivisor_15 {n : Nat} {Q : Int → Sto → Prop} {x4 : Int} {x6 : Int} {x8 : Int} {s : Sto} (hT : (-9223372036854775808 ≤ x6 ∧ x6 < 9223372036854775808) ∧ ((x6 = 0) → Q x4 s) ∧ ((¬ x6 = 0) → (-2147483648 ≤ x8 ∧ x8 < 2147483648) ∧ ((1000000 ≤ x8) → Q x4 s) ∧ ((x8 < 1000000) → (((-9223372036854775808 ≤ x4 ∧ x4 < 9223372036854775808) ∧ -9223372036854775808 ≤ x6 ∧ x6 < 9223372036854775808) ∧ ¬ x6 = 0) ∧ H_Ma_commonDivisor_15 n Q x6 (Int.tmod x4 x6) (x8 + 1) s))) : H_Ma_commonDivisor_15 n Q x4 x6 x8 s := by
  refine g_lload (npc := 17) dX5_commonDivisor_15 rfl rfl ?_
  refine g_lconst (npc := 18) (x := 0) dX5_commonDivisor_17 rfl (by decide) ?_
  obtain ⟨h3, hTt, hTf⟩ := hT
  refine g_leq (pc2 := 19) (npc := 22) (tgt := 50) dX5_commonDivisor_18 rfl dX5_commonDivisor_19 rfl (by decide) ⟨h3, by decide, by decide⟩ (fun c4 => ?_) (fun c4 => ?_)
  · replace hT := hTt c4
    refine g_lload (npc := 52) dX5_commonDivisor_50 rfl rfl ?_
    exact g_lret dX5_commonDivisor_52 rfl (by decide) ⟨_, rfl, hT⟩
  · replace hT := hTf c4
    refine g_iload (npc := 24) dX5_commonDivisor_22 rfl rfl ?_
    refine g_ldc (npc := 26) (x := 1000000) dX5_commonDivisor_24 rfl tw_577 ?_
    obtain ⟨h5, hTt, hTf⟩ := hT
    refine g_icmp_ge (npc := 29) (tgt := 50) dX5_commonDivisor_26 rfl (by decide) ⟨h5, by decide, by decide⟩ (fun c6 => ?_) (fun c6 => ?_)
    · replace hT := hTt c6
      refine g_lload (npc := 52) dX5_commonDivisor_50 rfl rfl ?_
      exact g_lret dX5_commonDivisor_52 rfl (by decide) ⟨_, rfl, hT⟩
    · replace hT := hTf (Int.not_le.mp c6)
      refine g_lload (npc := 31) dX5_commonDivisor_29 rfl rfl ?_
      refine g_lload (npc := 33) dX5_commonDivisor_31 rfl rfl ?_
      obtain ⟨h7, hT⟩ := hT
      refine g_lrem (npc := 34) dX5_commonDivisor_33 rfl h7.1 h7.2 ?_
      refine g_lstore (npc := 36) (l' := [(4, jV x4), (6, jV x6), (8, iV x8), (9, jV (Int.tmod x4 x6))]) dX5_commonDivisor_34 rfl (by decide) rfl ?_
      refine g_lload (npc := 38) dX5_commonDivisor_36 rfl rfl ?_
      refine g_lstore (npc := 40) (l' := [(4, jV x6), (6, jV x6), (8, iV x8), (9, jV (Int.tmod x4 x6))]) dX5_commonDivisor_38 rfl (by decide) rfl ?_
      refine g_lload (npc := 42) dX5_commonDivisor_40 rfl rfl ?_
      refine g_lstore (npc := 44) (l' := [(4, jV x6), (6, jV (Int.tmod x4 x6)), (8, iV x8), (9, jV (Int.tmod x4 x6))]) dX5_commonDivisor_42 rfl (by decide) rfl ?_
      refine g_iinc (npc := 47) (y := (x8 + 1)) (l' := [(4, jV x6), (6, jV (Int.tmod x4 x6)), (8, iV (x8 + 1)), (9, jV (Int.tmod x4 x6))]) dX5_commonDivisor_44 rfl (by decide) rfl (by omega) rfl ?_
      refine g_goto (npc := 15) dX5_commonDivisor_47 (by decide) ?_
      refine Go.lsub [0, 1, 2] rfl ?_
      exact hT
set_option maxRecDepth 20000 in
theorem e_Ma_commonDivisor {n : Nat} {x0 : Int} {x2 : Int} {s : Sto} {Q : Int → Sto → Prop} (hT : (-9223372036854775808 ≤ x0 ∧ x0 < 9223372036854775808) ∧ (-9223372036854775808 ≤ x2 ∧ x2 < 9223372036854775808) ∧ H_Ma_commonDivisor_15 n Q (labs x0) (labs x2) 0 s) : K_Ma_commonDivisor n x0 x2 s Q := by
  refine Sp.body (by decide +kernel) (Nat.le_of_ble_eq_true rfl) ?_
  show Go (SL n) M_Ma_commonDivisor (fJ Q) 0 0 0 [(0, jV x0), (2, jV x2)] [] s
  refine g_lload_n (npc := 1) dX5_commonDivisor_0 rfl rfl rfl ?_
  obtain ⟨h1, hT⟩ := hT
  refine g_labs (npc := 4) dX5_commonDivisor_1 rfl ⟨tw_574, tw_575, tw_41, tw_576⟩ ⟨by decide, Nat.le_of_ble_eq_true rfl⟩ (by decide) h1 ?_
  refine g_lstore (npc := 6) (l' := [(0, jV x0), (2, jV x2), (4, jV (labs x0))]) dX5_commonDivisor_4 rfl (by decide) rfl ?_
  refine g_lload_n (npc := 7) dX5_commonDivisor_6 rfl rfl rfl ?_
  obtain ⟨h2, hT⟩ := hT
  refine g_labs (npc := 10) dX5_commonDivisor_7 rfl ⟨tw_574, tw_575, tw_41, tw_576⟩ ⟨by decide, Nat.le_of_ble_eq_true rfl⟩ (by decide) h2 ?_
  refine g_lstore (npc := 12) (l' := [(0, jV x0), (2, jV x2), (4, jV (labs x0)), (6, jV (labs x2))]) dX5_commonDivisor_10 rfl (by decide) rfl ?_
  refine g_iconst (npc := 13) dX5_commonDivisor_12 rfl ?_
  refine g_istore (npc := 15) (l' := [(0, jV x0), (2, jV x2), (4, jV (labs x0)), (6, jV (labs x2)), (8, iV 0)]) dX5_commonDivisor_13 rfl (by decide) rfl ?_
  refine Go.lsub [2, 3, 4] rfl ?_
  exact hT
abbrev H_Ma_orderOf_6 (n : Nat) (Q : Int → Sto → Prop) (k1 : Nat) (x2 : Int) (s : Sto) : Prop := Go (SL n) M_Ma_orderOf (fJ Q) 0 0 6 [(0, .ref 42), (1, .ref k1), (2, iV x2)] [] s
abbrev H_Ma_orderOf_46 (n : Nat) (Q : Int → Sto → Prop) (x2 : Int) (x4 : Int) (x6 : Int) (s : Sto) : Prop := Go (SL n) M_Ma_orderOf (fJ Q) 0 0 46 [(0, .ref 42), (2, jV x2), (4, jV x4), (6, iV x6)] [] s
set_option maxRecDepth 20000 in
theorem b_Ma_orderOf_6 {n : Nat} {Q : Int → Sto → Prop} {k1 : Nat} {x2 : Int} (hk1 : ar (SL n) k1 1 8) {s : Sto} (hT : ((-2147483648 ≤ x2 ∧ x2 < 2147483648) ∧ -2147483648 ≤ (s 42 4) ∧ (s 42 4) < 2147483648) ∧ (((s 42 4) ≤ x2) → ∃ Q8 : Int → Sto → Prop, K_Ma_eliminate n s Q8 ∧ ∀ r11 s10, Q8 r11 s10 → H_Ma_orderOf_46 n Q r11 r11 0 s10) ∧ ((x2 < (s 42 4)) → (0 ≤ x2 ∧ x2 < 8) ∧ (0 ≤ x2 ∧ x2 < 8) ∧ (-2147483648 ≤ (s k1 (Int.toNat x2)) ∧ (s k1 (Int.toNat x2)) < 2147483648) ∧ (0 ≤ (s 42 4) ∧ (s 42 4) < 9) ∧ ∀ s17, s17 = up s (45 + Int.toNat x2) (Int.toNat (s 42 4)) (s k1 (Int.toNat x2)) → H_Ma_orderOf_6 n Q k1 (x2 + 1) s17)) : H_Ma_orderOf_6 n Q k1 x2 s := by
  refine g_iload_n (npc := 7) dX5_orderOf_6 rfl rfl rfl ?_
  refine g_aload_n (npc := 8) dX5_orderOf_7 rfl rfl rfl ?_
  refine gf_Ma_24 (npc := 11) dX5_orderOf_8 rfl rfl ?_
  obtain ⟨h6, hTt, hTf⟩ := hT
  refine g_icmp_ge (npc := 14) (tgt := 35) dX5_orderOf_11 rfl (by decide) h6 (fun c7 => ?_) (fun c7 => ?_)
  · replace hT := hTt c7
    refine g_aload_n (npc := 36) dX5_orderOf_35 rfl rfl rfl ?_
    obtain ⟨Q8, h9, hT⟩ := hT
    refine iv_Ma_78 (npc := 39) dX5_orderOf_36 rfl rfl (Nat.le_of_ble_eq_true rfl) (by decide) (by decide) h9 (fun r11 s10 e12 => ?_)
    replace hT := hT r11 s10 e12
    refine g_lstore_n (npc := 40) (l' := [(0, .ref 42), (1, .ref k1), (2, jV r11)]) dX5_orderOf_39 rfl rfl (by decide) rfl ?_
    refine g_lload_n (npc := 41) dX5_orderOf_40 rfl rfl rfl ?_
    refine g_lstore (npc := 43) (l' := [(0, .ref 42), (1, .ref k1), (2, jV r11), (4, jV r11)]) dX5_orderOf_41 rfl (by decide) rfl ?_
    refine g_iconst (npc := 44) dX5_orderOf_43 rfl ?_
    refine g_istore (npc := 46) (l' := [(0, .ref 42), (1, .ref k1), (2, jV r11), (4, jV r11), (6, iV 0)]) dX5_orderOf_44 rfl (by decide) rfl ?_
    refine Go.lsub [0, 2, 3, 4] rfl ?_
    exact hT
  · replace hT := hTf (Int.not_le.mp c7)
    refine g_aload_n (npc := 15) dX5_orderOf_14 rfl rfl rfl ?_
    refine gf_Ma_21 (npc := 18) dX5_orderOf_15 rfl rfl ?_
    refine g_iload_n (npc := 19) dX5_orderOf_18 rfl rfl rfl ?_
    obtain ⟨h13, hT⟩ := hT
    refine g_aald6 (npc := 20) dX5_orderOf_19 rfl (arSL arSC_44) h13 (frSC_44 h13) ?_
    refine g_aload_n (npc := 21) dX5_orderOf_20 rfl rfl rfl ?_
    refine gf_Ma_24 (npc := 24) dX5_orderOf_21 rfl rfl ?_
    refine g_aload_n (npc := 25) dX5_orderOf_24 rfl rfl rfl ?_
    refine g_iload_n (npc := 26) dX5_orderOf_25 rfl rfl rfl ?_
    obtain ⟨h14, hT⟩ := hT
    refine g_iald (npc := 27) dX5_orderOf_26 rfl hk1 h14 ?_
    obtain ⟨h15, hT⟩ := hT
    refine g_i2l (npc := 28) dX5_orderOf_27 rfl h15 ?_
    obtain ⟨h16, hT⟩ := hT
    replace hT := hT _ rfl
    refine g_last (npc := 29) dX5_orderOf_28 rfl (arSL (rwSC_44 h13)) h16  ?_
    refine g_iinc (npc := 32) (y := (x2 + 1)) (l' := [(0, .ref 42), (1, .ref k1), (2, iV (x2 + 1))]) dX5_orderOf_29 rfl (by decide) rfl (by omega) rfl ?_
    refine g_goto (npc := 6) dX5_orderOf_32 (by decide) ?_
    exact hT
set_option maxRecDepth 20000 in
theorem b_Ma_orderOf_46 {n : Nat} {Q : Int → Sto → Prop} {x2 : Int} {x4 : Int} {x6 : Int} {s : Sto} (hT : ((-2147483648 ≤ x6 ∧ x6 < 2147483648) ∧ -2147483648 ≤ (s 42 4) ∧ (s 42 4) < 2147483648) ∧ (((s 42 4) ≤ x6) → (-9223372036854775808 ≤ x4 ∧ x4 < 9223372036854775808) ∧ ((¬ x4 = 0) → (((-9223372036854775808 ≤ x2 ∧ x2 < 9223372036854775808) ∧ -9223372036854775808 ≤ x4 ∧ x4 < 9223372036854775808) ∧ ¬ x4 = 0) ∧ Q (Int.tdiv x2 x4) s) ∧ ((x4 = 0) → Q 0 s)) ∧ ((x6 < (s 42 4)) → (0 ≤ x6 ∧ x6 < 8) ∧ (0 ≤ (s 42 4) ∧ (s 42 4) < 9) ∧ ∃ Q25 : Int → Sto → Prop, K_Ma_commonDivisor n x4 (s (45 + Int.toNat x6) (Int.toNat (s 42 4))) s Q25 ∧ ∀ r28 s27, Q25 r28 s27 → H_Ma_orderOf_46 n Q x2 r28 (x6 + 1) s27)) : H_Ma_orderOf_46 n Q x2 x4 x6 s := by
  refine g_iload (npc := 48) dX5_orderOf_46 rfl rfl ?_
  refine g_aload_n (npc := 49) dX5_orderOf_48 rfl rfl rfl ?_
  refine gf_Ma_24 (npc := 52) dX5_orderOf_49 rfl rfl ?_
  obtain ⟨h18, hTt, hTf⟩ := hT
  refine g_icmp_ge (npc := 55) (tgt := 80) dX5_orderOf_52 rfl (by decide) h18 (fun c19 => ?_) (fun c19 => ?_)
  · replace hT := hTt c19
    refine g_lload (npc := 82) dX5_orderOf_80 rfl rfl ?_
    refine g_lconst (npc := 83) (x := 0) dX5_orderOf_82 rfl (by decide) ?_
    obtain ⟨h20, hTt, hTf⟩ := hT
    refine g_lne (pc2 := 84) (npc := 87) (tgt := 91) dX5_orderOf_83 rfl dX5_orderOf_84 rfl (by decide) ⟨h20, by decide, by decide⟩ (fun c21 => ?_) (fun c21 => ?_)
    · replace hT := hTt c21
      refine g_lload_n (npc := 92) dX5_orderOf_91 rfl rfl rfl ?_
      refine g_lload (npc := 94) dX5_orderOf_92 rfl rfl ?_
      obtain ⟨h22, hT⟩ := hT
      refine g_ldiv (npc := 95) dX5_orderOf_94 rfl h22.1 h22.2 ?_
      exact g_lret dX5_orderOf_95 rfl (by decide) ⟨_, rfl, hT⟩
    · replace hT := hTf (Decidable.not_not.mp c21)
      refine g_lconst (npc := 88) (x := 0) dX5_orderOf_87 rfl (by decide) ?_
      refine g_goto (npc := 95) dX5_orderOf_88 (by decide) ?_
      exact g_lret dX5_orderOf_95 rfl (by decide) ⟨_, rfl, hT⟩
  · replace hT := hTf (Int.not_le.mp c19)
    refine g_lload (npc := 57) dX5_orderOf_55 rfl rfl ?_
    refine g_aload_n (npc := 58) dX5_orderOf_57 rfl rfl rfl ?_
    refine gf_Ma_21 (npc := 61) dX5_orderOf_58 rfl rfl ?_
    refine g_iload (npc := 63) dX5_orderOf_61 rfl rfl ?_
    obtain ⟨h23, hT⟩ := hT
    refine g_aald6 (npc := 64) dX5_orderOf_63 rfl (arSL arSC_44) h23 (frSC_44 h23) ?_
    refine g_aload_n (npc := 65) dX5_orderOf_64 rfl rfl rfl ?_
    refine gf_Ma_24 (npc := 68) dX5_orderOf_65 rfl rfl ?_
    obtain ⟨h24, hT⟩ := hT
    refine g_lald (npc := 69) dX5_orderOf_68 rfl (arSL (rwSC_44 h23)) h24 ?_
    obtain ⟨Q25, h26, hT⟩ := hT
    refine iv_Ma_82 (npc := 72) dX5_orderOf_69 rfl rfl (Nat.le_of_ble_eq_true rfl) (by decide) (by decide) h26 (fun r28 s27 e29 => ?_)
    replace hT := hT r28 s27 e29
    refine g_lstore (npc := 74) (l' := [(0, .ref 42), (2, jV x2), (4, jV r28), (6, iV x6)]) dX5_orderOf_72 rfl (by decide) rfl ?_
    refine g_iinc (npc := 77) (y := (x6 + 1)) (l' := [(0, .ref 42), (2, jV x2), (4, jV r28), (6, iV (x6 + 1))]) dX5_orderOf_74 rfl (by decide) rfl (by omega) rfl ?_
    refine g_goto (npc := 46) dX5_orderOf_77 (by decide) ?_
    exact hT
set_option maxRecDepth 20000 in
theorem e_Ma_orderOf {n : Nat} {k1 : Nat} (hk1 : ar (SL n) k1 1 8) {s : Sto} {Q : Int → Sto → Prop} (hT : ∃ Q1 : Sto → Prop, K_Ma_fillWhole n s Q1 ∧ ∀ s3, Q1 s3 → H_Ma_orderOf_6 n Q k1 0 s3) : K_Ma_orderOf n k1 s Q := by
  refine Sp.body (by decide +kernel) (Nat.le_of_ble_eq_true rfl) ?_
  show Go (SL n) M_Ma_orderOf (fJ Q) 0 0 0 [(0, .ref 42), (1, .ref k1)] [] s
  refine g_aload_n (npc := 1) dX5_orderOf_0 rfl rfl rfl ?_
  obtain ⟨Q1, h2, hT⟩ := hT
  refine iv_Ma_75 (npc := 4) dX5_orderOf_1 rfl rfl (Nat.le_of_ble_eq_true rfl) (by decide) (by decide) h2 (fun s3 e5 => ?_)
  replace hT := hT s3 e5
  refine g_iconst (npc := 5) dX5_orderOf_4 rfl ?_
  refine g_istore_n (npc := 6) (l' := [(0, .ref 42), (1, .ref k1), (2, iV 0)]) dX5_orderOf_5 rfl rfl (by decide) rfl ?_
  exact hT
abbrev H_Ma_swapRows_2 (n : Nat) (Q : Sto → Prop) (x1 : Int) (x2 : Int) (x3 : Int) (s : Sto) : Prop := Go (SL n) M_Ma_swapRows (fV0 Q) 0 0 2 [(0, .ref 42), (1, iV x1), (2, iV x2), (3, iV x3)] [] s
set_option maxRecDepth 20000 in
theorem b_Ma_swapRows_2 {n : Nat} {Q : Sto → Prop} {x1 : Int} {x2 : Int} {x3 : Int} {s : Sto} (hT : ((-2147483648 ≤ x3 ∧ x3 < 2147483648) ∧ -2147483648 ≤ (s 42 4) ∧ (s 42 4) < 2147483648) ∧ (((s 42 4) ≤ x3) → Q s) ∧ ((x3 < (s 42 4)) → (0 ≤ x1 ∧ x1 < 8) ∧ (0 ≤ x3 ∧ x3 < 9) ∧ (0 ≤ x1 ∧ x1 < 8) ∧ (0 ≤ x2 ∧ x2 < 8) ∧ (0 ≤ x3 ∧ x3 < 9) ∧ (0 ≤ x3 ∧ x3 < 9) ∧ ∀ s9, s9 = up s (45 + Int.toNat x1) (Int.toNat x3) (s (45 + Int.toNat x2) (Int.toNat x3)) → (0 ≤ x2 ∧ x2 < 8) ∧ (0 ≤ x3 ∧ x3 < 9) ∧ ∀ s12, s12 = up s9 (45 + Int.toNat x2) (Int.toNat x3) (s (45 + Int.toNat x1) (Int.toNat x3)) → H_Ma_swapRows_2 n Q x1 x2 (x3 + 1) s12)) : H_Ma_swapRows_2 n Q x1 x2 x3 s := by
  refine g_iload_n (npc := 3) dX5_swapRows_2 rfl rfl rfl ?_
  refine g_aload_n (npc := 4) dX5_swapRows_3 rfl rfl rfl ?_
  refine gf_Ma_24 (npc := 7) dX5_swapRows_4 rfl rfl ?_
  obtain ⟨h1, hTt, hTf⟩ := hT
  refine g_icmp_ge (npc := 10) (tgt := 52) dX5_swapRows_7 rfl (by decide) h1 (fun c2 => ?_) (fun c2 => ?_)
  · replace hT := hTt c2
    exact g_ret dX5_swapRows_52 rfl (by decide) ⟨rfl, hT⟩
  · replace hT := hTf (Int.not_le.mp c2)
    refine g_aload_n (npc := 11) dX5_swapRows_10 rfl rfl rfl ?_
    refine gf_Ma_21 (npc := 14) dX5_swapRows_11 rfl rfl ?_
    refine g_iload_n (npc := 15) dX5_swapRows_14 rfl rfl rfl ?_
    obtain ⟨h3, hT⟩ := hT
    refine g_aald6 (npc := 16) dX5_swapRows_15 rfl (arSL arSC_44) h3 (frSC_44 h3) ?_
    refine g_iload_n (npc := 17) dX5_swapRows_16 rfl rfl rfl ?_
    obtain ⟨h4, hT⟩ := hT
    refine g_lald (npc := 18) dX5_swapRows_17 rfl (arSL (rwSC_44 h3)) h4 ?_
    refine g_lstore (npc := 20) (l' := [(0, .ref 42), (1, iV x1), (2, iV x2), (3, iV x3), (4, jV (s (45 + Int.toNat x1) (Int.toNat x3)))]) dX5_swapRows_18 rfl (by decide) rfl ?_
    refine g_aload_n (npc := 21) dX5_swapRows_20 rfl rfl rfl ?_
    refine gf_Ma_21 (npc := 24) dX5_swapRows_21 rfl rfl ?_
    refine g_iload_n (npc := 25) dX5_swapRows_24 rfl rfl rfl ?_
    obtain ⟨h5, hT⟩ := hT
    refine g_aald6 (npc := 26) dX5_swapRows_25 rfl (arSL arSC_44) h5 (frSC_44 h5) ?_
    refine g_iload_n (npc := 27) dX5_swapRows_26 rfl rfl rfl ?_
    refine g_aload_n (npc := 28) dX5_swapRows_27 rfl rfl rfl ?_
    refine gf_Ma_21 (npc := 31) dX5_swapRows_28 rfl rfl ?_
    refine g_iload_n (npc := 32) dX5_swapRows_31 rfl rfl rfl ?_
    obtain ⟨h6, hT⟩ := hT
    refine g_aald6 (npc := 33) dX5_swapRows_32 rfl (arSL arSC_44) h6 (frSC_44 h6) ?_
    refine g_iload_n (npc := 34) dX5_swapRows_33 rfl rfl rfl ?_
    obtain ⟨h7, hT⟩ := hT
    refine g_lald (npc := 35) dX5_swapRows_34 rfl (arSL (rwSC_44 h6)) h7 ?_
    obtain ⟨h8, hT⟩ := hT
    replace hT := hT _ rfl
    refine g_last (npc := 36) dX5_swapRows_35 rfl (arSL (rwSC_44 h5)) h8  ?_
    refine g_aload_n (npc := 37) dX5_swapRows_36 rfl rfl rfl ?_
    refine gf_Ma_21 (npc := 40) dX5_swapRows_37 rfl rfl ?_
    refine g_iload_n (npc := 41) dX5_swapRows_40 rfl rfl rfl ?_
    obtain ⟨h10, hT⟩ := hT
    refine g_aald6 (npc := 42) dX5_swapRows_41 rfl (arSL arSC_44) h10 (frSC_44 h10) ?_
    refine g_iload_n (npc := 43) dX5_swapRows_42 rfl rfl rfl ?_
    refine g_lload (npc := 45) dX5_swapRows_43 rfl rfl ?_
    obtain ⟨h11, hT⟩ := hT
    replace hT := hT _ rfl
    refine g_last (npc := 46) dX5_swapRows_45 rfl (arSL (rwSC_44 h10)) h11  ?_
    refine g_iinc (npc := 49) (y := (x3 + 1)) (l' := [(0, .ref 42), (1, iV x1), (2, iV x2), (3, iV (x3 + 1)), (4, jV (s (45 + Int.toNat x1) (Int.toNat x3)))]) dX5_swapRows_46 rfl (by decide) rfl (by omega) rfl ?_
    refine g_goto (npc := 2) dX5_swapRows_49 (by decide) ?_
    refine Go.lsub [0, 1, 2, 3] rfl ?_
    exact hT
set_option maxRecDepth 20000 in
theorem e_Ma_swapRows {n : Nat} {x1 : Int} {x2 : Int} {s : Sto} {Q : Sto → Prop} (hT : H_Ma_swapRows_2 n Q x1 x2 0 s) : K_Ma_swapRows n x1 x2 s Q := by
  refine Sp.body (by decide +kernel) (Nat.le_of_ble_eq_true rfl) ?_
  show Go (SL n) M_Ma_swapRows (fV0 Q) 0 0 0 [(0, .ref 42), (1, iV x1), (2, iV x2)] [] s
  refine g_iconst (npc := 1) dX5_swapRows_0 rfl ?_
  refine g_istore_n (npc := 2) (l' := [(0, .ref 42), (1, iV x1), (2, iV x2), (3, iV 0)]) dX5_swapRows_1 rfl rfl (by decide) rfl ?_
  exact hT
abbrev H_Ma_swapColumns_2 (n : Nat) (Q : Sto → Prop) (x1 : Int) (x2 : Int) (x3 : Int) (s : Sto) : Prop := Go (SL n) M_Ma_swapColumns (fV0 Q) 0 0 2 [(0, .ref 42), (1, iV x1), (2, iV x2), (3, iV x3)] [] s
set_option maxRecDepth 20000 in
theorem b_Ma_swapColumns_2 {n : Nat} {Q : Sto → Prop} {x1 : Int} {x2 : Int} {x3 : Int} {s : Sto} (hT : ((-2147483648 ≤ x3 ∧ x3 < 2147483648) ∧ -2147483648 ≤ (s 42 4) ∧ (s 42 4) < 2147483648) ∧ (((s 42 4) ≤ x3) → Q s) ∧ ((x3 < (s 42 4)) → (0 ≤ x3 ∧ x3 < 8) ∧ (0 ≤ x1 ∧ x1 < 9) ∧ (0 ≤ x3 ∧ x3 < 8) ∧ (0 ≤ x3 ∧ x3 < 8) ∧ (0 ≤ x2 ∧ x2 < 9) ∧ (0 ≤ x1 ∧ x1 < 9) ∧ ∀ s9, s9 = up s (45 + Int.toNat x3) (Int.toNat x1) (s (45 + Int.toNat x3) (Int.toNat x2)) → (0 ≤ x3 ∧ x3 < 8) ∧ (0 ≤ x2 ∧ x2 < 9) ∧ ∀ s12, s12 = up s9 (45 + Int.toNat x3) (Int.toNat x2) (s (45 + Int.toNat x3) (Int.toNat x1)) → H_Ma_swapColumns_2 n Q x1 x2 (x3 + 1) s12)) : H_Ma_swapColumns_2 n Q x1 x2 x3 s := by
  refine g_iload_n (npc := 3) dX5_swapColumns_2 rfl rfl rfl ?_
  refine g_aload_n (npc := 4) dX5_swapColumns_3 rfl rfl rfl ?_
  refine gf_Ma_24 (npc := 7) dX5_swapColumns_4 rfl rfl ?_
  obtain ⟨h1, hTt, hTf⟩ := hT
  refine g_icmp_ge (npc := 10) (tgt := 52) dX5_swapColumns_7 rfl (by decide) h1 (fun c2 => ?_) (fun c2 => ?_)
  · replace hT := hTt c2
    exact g_ret dX5_swapColumns_52 rfl (by decide) ⟨rfl, hT⟩
  · replace hT := hTf (Int.not_le.mp c2)
    refine g_aload_n (npc := 11) dX5_swapColumns_10 rfl rfl rfl ?_
    refine gf_Ma_21 (npc := 14) dX5_swapColumns_11 rfl rfl ?_
    refine g_iload_n (npc := 15) dX5_swapColumns_14 rfl rfl rfl ?_
    obtain ⟨h3, hT⟩ := hT
    refine g_aald6 (npc := 16) dX5_swapColumns_15 rfl (arSL arSC_44) h3 (frSC_44 h3) ?_
    refine g_iload_n (npc := 17) dX5_swapColumns_16 rfl rfl rfl ?_
    obtain ⟨h4, hT⟩ := hT
    refine g_lald (npc := 18) dX5_swapColumns_17 rfl (arSL (rwSC_44 h3)) h4 ?_
    refine g_lstore (npc := 20) (l' := [(0, .ref 42), (1, iV x1), (2, iV x2), (3, iV x3), (4, jV (s (45 + Int.toNat x3) (Int.toNat x1)))]) dX5_swapColumns_18 rfl (by decide) rfl ?_
    refine g_aload_n (npc := 21) dX5_swapColumns_20 rfl rfl rfl ?_
    refine gf_Ma_21 (npc := 24) dX5_swapColumns_21 rfl rfl ?_
    refine g_iload_n (npc := 25) dX5_swapColumns_24 rfl rfl rfl ?_
    obtain ⟨h5, hT⟩ := hT
    refine g_aald6 (npc := 26) dX5_swapColumns_25 rfl (arSL arSC_44) h5 (frSC_44 h5) ?_
    refine g_iload_n (npc := 27) dX5_swapColumns_26 rfl rfl rfl ?_
    refine g_aload_n (npc := 28) dX5_swapColumns_27 rfl rfl rfl ?_
    refine gf_Ma_21 (npc := 31) dX5_swapColumns_28 rfl rfl ?_
    refine g_iload_n (npc := 32) dX5_swapColumns_31 rfl rfl rfl ?_
    obtain ⟨h6, hT⟩ := hT
    refine g_aald6 (npc := 33) dX5_swapColumns_32 rfl (arSL arSC_44) h6 (frSC_44 h6) ?_
    refine g_iload_n (npc := 34) dX5_swapColumns_33 rfl rfl rfl ?_
    obtain ⟨h7, hT⟩ := hT
    refine g_lald (npc := 35) dX5_swapColumns_34 rfl (arSL (rwSC_44 h6)) h7 ?_
    obtain ⟨h8, hT⟩ := hT
    replace hT := hT _ rfl
    refine g_last (npc := 36) dX5_swapColumns_35 rfl (arSL (rwSC_44 h5)) h8  ?_
    refine g_aload_n (npc := 37) dX5_swapColumns_36 rfl rfl rfl ?_
    refine gf_Ma_21 (npc := 40) dX5_swapColumns_37 rfl rfl ?_
    refine g_iload_n (npc := 41) dX5_swapColumns_40 rfl rfl rfl ?_
    obtain ⟨h10, hT⟩ := hT
    refine g_aald6 (npc := 42) dX5_swapColumns_41 rfl (arSL arSC_44) h10 (frSC_44 h10) ?_
    refine g_iload_n (npc := 43) dX5_swapColumns_42 rfl rfl rfl ?_
    refine g_lload (npc := 45) dX5_swapColumns_43 rfl rfl ?_
    obtain ⟨h11, hT⟩ := hT
    replace hT := hT _ rfl
    refine g_last (npc := 46) dX5_swapColumns_45 rfl (arSL (rwSC_44 h10)) h11  ?_
    refine g_iinc (npc := 49) (y := (x3 + 1)) (l' := [(0, .ref 42), (1, iV x1), (2, iV x2), (3, iV (x3 + 1)), (4, jV (s (45 + Int.toNat x3) (Int.toNat x1)))]) dX5_swapColumns_46 rfl (by decide) rfl (by omega) rfl ?_
    refine g_goto (npc := 2) dX5_swapColumns_49 (by decide) ?_
    refine Go.lsub [0, 1, 2, 3] rfl ?_
    exact hT
set_option maxRecDepth 20000 in
theorem e_Ma_swapColumns {n : Nat} {x1 : Int} {x2 : Int} {s : Sto} {Q : Sto → Prop} (hT : H_Ma_swapColumns_2 n Q x1 x2 0 s) : K_Ma_swapColumns n x1 x2 s Q := by
  refine Sp.body (by decide +kernel) (Nat.le_of_ble_eq_true rfl) ?_
  show Go (SL n) M_Ma_swapColumns (fV0 Q) 0 0 0 [(0, .ref 42), (1, iV x1), (2, iV x2)] [] s
  refine g_iconst (npc := 1) dX5_swapColumns_0 rfl ?_
  refine g_istore_n (npc := 2) (l' := [(0, .ref 42), (1, iV x1), (2, iV x2), (3, iV 0)]) dX5_swapColumns_1 rfl rfl (by decide) rfl ?_
  exact hT
abbrev H_Ma_bringLeastToCorner_7 (n : Nat) (Q : Int → Sto → Prop) (x1 : Int) (x2 : Int) (x3 : Int) (x4 : Int) (s : Sto) : Prop := Go (SL n) M_Ma_bringLeastToCorner (fI Q) 0 0 7 [(0, .ref 42), (1, iV x1), (2, iV x2), (3, iV x3), (4, iV x4)] [] s
abbrev H_Ma_bringLeastToCorner_19 (n : Nat) (Q : Int → Sto → Prop) (x1 : Int) (x2 : Int) (x3 : Int) (x4 : Int) (x5 : Int) (s : Sto) : Prop := Go (SL n) M_Ma_bringLeastToCorner (fI Q) 0 0 19 [(0, .ref 42), (1, iV x1), (2, iV x2), (3, iV x3), (4, iV x4), (5, iV x5)] [] s
set_option maxRecDepth 20000 in
theorem b_Ma_bringLeastToCorner_7 {n : Nat} {Q : Int → Sto → Prop} {x1 : Int} {x2 : Int} {x3 : Int} {x4 : Int} {s : Sto} (hT : ((-2147483648 ≤ x4 ∧ x4 < 2147483648) ∧ -2147483648 ≤ (s 42 4) ∧ (s 42 4) < 2147483648) ∧ (((s 42 4) ≤ x4) → (-2147483648 ≤ x2 ∧ x2 < 2147483648) ∧ ((0 ≤ x2) → ∃ Q5 : Sto → Prop, K_Ma_swapRows n x1 x2 s Q5 ∧ ∀ s7, Q5 s7 → ∃ Q10 : Sto → Prop, K_Ma_swapColumns n x1 x3 s7 Q10 ∧ ∀ s12, Q10 s12 → Q 1 s12) ∧ ((x2 < 0) → Q 0 s)) ∧ ((x4 < (s 42 4)) → H_Ma_bringLeastToCorner_19 n Q x1 x2 x3 x4 x1 s)) : H_Ma_bringLeastToCorner_7 n Q x1 x2 x3 x4 s := by
  refine g_iload (npc := 9) dX5_bringLeastToCorner_7 rfl rfl ?_
  refine g_aload_n (npc := 10) dX5_bringLeastToCorner_9 rfl rfl rfl ?_
  refine gf_Ma_24 (npc := 13) dX5_bringLeastToCorner_10 rfl rfl ?_
  obtain ⟨h1, hTt, hTf⟩ := hT
  refine g_icmp_ge (npc := 16) (tgt := 99) dX5_bringLeastToCorner_13 rfl (by decide) h1 (fun c2 => ?_) (fun c2 => ?_)
  · replace hT := hTt c2
    refine g_iload_n (npc := 100) dX5_bringLeastToCorner_99 rfl rfl rfl ?_
    obtain ⟨h3, hTt, hTf⟩ := hT
    refine g_if_ge (npc := 103) (tgt := 105) dX5_bringLeastToCorner_100 rfl (by decide) h3 (fun c4 => ?_) (fun c4 => ?_)
    · replace hT := hTt c4
      refine g_aload_n (npc := 106) dX5_bringLeastToCorner_105 rfl rfl rfl ?_
      refine g_iload_n (npc := 107) dX5_bringLeastToCorner_106 rfl rfl rfl ?_
      refine g_iload_n (npc := 108) dX5_bringLeastToCorner_107 rfl rfl rfl ?_
      obtain ⟨Q5, h6, hT⟩ := hT
      refine iv_Ma_109 (npc := 111) dX5_bringLeastToCorner_108 rfl rfl (Nat.le_of_ble_eq_true rfl) (by decide) (by decide) h6 (fun s7 e9 => ?_)
      replace hT := hT s7 e9
      refine g_aload_n (npc := 112) dX5_bringLeastToCorner_111 rfl rfl rfl ?_
      refine g_iload_n (npc := 113) dX5_bringLeastToCorner_112 rfl rfl rfl ?_
      refine g_iload_n (npc := 114) dX5_bringLeastToCorner_113 rfl rfl rfl ?_
      obtain ⟨Q10, h11, hT⟩ := hT
      refine iv_Ma_112 (npc := 117) dX5_bringLeastToCorner_114 rfl rfl (Nat.le_of_ble_eq_true rfl) (by decide) (by decide) h11 (fun s12 e14 => ?_)
      replace hT := hT s12 e14
      refine g_iconst (npc := 118) dX5_bringLeastToCorner_117 rfl ?_
      exact g_iret dX5_bringLeastToCorner_118 rfl (by decide) (by decide) ⟨_, rfl, hT⟩
    · replace hT := hTf (Int.not_le.mp c4)
      refine g_iconst (npc := 104) dX5_bringLeastToCorner_103 rfl ?_
      exact g_iret dX5_bringLeastToCorner_104 rfl (by decide) (by decide) ⟨_, rfl, hT⟩
  · replace hT := hTf (Int.not_le.mp c2)
    refine g_iload_n (npc := 17) dX5_bringLeastToCorner_16 rfl rfl rfl ?_
    refine g_istore (npc := 19) (l' := [(0, .ref 42), (1, iV x1), (2, iV x2), (3, iV x3), (4, iV x4), (5, iV x1)]) dX5_bringLeastToCorner_17 rfl (by decide) rfl ?_
    exact hT
set_option maxRecDepth 20000 in
theorem b_Ma_bringLeastToCorner_19 {n : Nat} {Q : Int → Sto → Prop} {x1 : Int} {x2 : Int} {x3 : Int} {x4 : Int} {x5 : Int} {s : Sto} (hT : ((-2147483648 ≤ x5 ∧ x5 < 2147483648) ∧ -2147483648 ≤ (s 42 4) ∧ (s 42 4) < 2147483648) ∧ (((s 42 4) ≤ x5) → H_Ma_bringLeastToCorner_7 n Q x1 x2 x3 (x4 + 1) s) ∧ ((x5 < (s 42 4)) → ∃ J22 : Prop, ∃ J29 : Int → Prop, (J22 → J29 1) ∧ (∀ v28, J29 v28 → (0 ≤ x4 ∧ x4 < 8) ∧ (0 ≤ x5 ∧ x5 < 9) ∧ (-9223372036854775808 ≤ (s (45 + Int.toNat x4) (Int.toNat x5)) ∧ (s (45 + Int.toNat x4) (Int.toNat x5)) < 9223372036854775808) ∧ (((s (45 + Int.toNat x4) (Int.toNat x5)) = 0) → H_Ma_bringLeastToCorner_19 n Q x1 x2 x3 x4 (x5 + 1) s) ∧ ((¬ (s (45 + Int.toNat x4) (Int.toNat x5)) = 0) → (-2147483648 ≤ v28 ∧ v28 < 2147483648) ∧ ((v28 = 0) → H_Ma_bringLeastToCorner_19 n Q x1 x2 x3 x4 (x5 + 1) s) ∧ ((¬ v28 = 0) → H_Ma_bringLeastToCorner_19 n Q x1 x4 x5 x4 (x5 + 1) s))) ∧ (-2147483648 ≤ x2 ∧ x2 < 2147483648) ∧ ((x2 < 0) → J22) ∧ ((0 ≤ x2) → (0 ≤ x4 ∧ x4 < 8) ∧ (0 ≤ x5 ∧ x5 < 9) ∧ (0 ≤ x2 ∧ x2 < 8) ∧ (0 ≤ x3 ∧ x3 < 9) ∧ ((-9223372036854775808 ≤ (s (45 + Int.toNat x4) (Int.toNat x5)) ∧ (s (45 + Int.toNat x4) (Int.toNat x5)) < 9223372036854775808) ∧ -9223372036854775808 ≤ (s (45 + Int.toNat x2) (Int.toNat x3)) ∧ (s (45 + Int.toNat x2) (Int.toNat x3)) < 9223372036854775808) ∧ (((s (45 + Int.toNat x2) (Int.toNat x3)) ≤ (s (45 + Int.toNat x4) (Int.toNat x5))) → J29 0) ∧ (((s (45 + Int.toNat x4) (Int.toNat x5)) < (s (45 + Int.toNat x2) (Int.toNat x3))) → J22)))) : H_Ma_bringLeastToCorner_19 n Q x1 x2 x3 x4 x5 s := by
  refine g_iload (npc := 21) dX5_bringLeastToCorner_19 rfl rfl ?_
  refine g_aload_n (npc := 22) dX5_bringLeastToCorner_21 rfl rfl rfl ?_
  refine gf_Ma_24 (npc := 25) dX5_bringLeastToCorner_22 rfl rfl ?_
  obtain ⟨h15, hTt, hTf⟩ := hT
  refine g_icmp_ge (npc := 28) (tgt := 93) dX5_bringLeastToCorner_25 rfl (by decide) h15 (fun c16 => ?_) (fun c16 => ?_)
  · replace hT := hTt c16
    refine g_iinc (npc := 96) (y := (x4 + 1)) (l' := [(0, .ref 42), (1, iV x1), (2, iV x2), (3, iV x3), (4, iV (x4 + 1)), (5, iV x5)]) dX5_bringLeastToCorner_93 rfl (by decide) rfl (by omega) rfl ?_
    refine g_goto (npc := 7) dX5_bringLeastToCorner_96 (by decide) ?_
    refine Go.lsub [0, 1, 2, 3, 4] rfl ?_
    exact hT
  · replace hT := hTf (Int.not_le.mp c16)
    refine g_iload_n (npc := 29) dX5_bringLeastToCorner_28 rfl rfl rfl ?_
    obtain ⟨J22, hT⟩ := hT
    obtain ⟨J29, hT⟩ := hT
    obtain ⟨hj32, hT⟩ := hT
    obtain ⟨hj40, hT⟩ := hT
    have K41 : ∀ (v28 : Int), J29 v28 → Go (SL n) M_Ma_bringLeastToCorner (fI Q) 0 0 59 [(0, .ref 42), (1, iV x1), (2, iV x2), (3, iV x3), (4, iV x4), (5, iV x5)] [iV v28] s := by
      intro v28 q48
      replace hT := hj40 v28 q48
      refine g_istore (npc := 61) (l' := [(0, .ref 42), (1, iV x1), (2, iV x2), (3, iV x3), (4, iV x4), (5, iV x5), (6, iV v28)]) dX5_bringLeastToCorner_59 rfl (by decide) rfl ?_
      refine g_aload_n (npc := 62) dX5_bringLeastToCorner_61 rfl rfl rfl ?_
      refine gf_Ma_21 (npc := 65) dX5_bringLeastToCorner_62 rfl rfl ?_
      refine g_iload (npc := 67) dX5_bringLeastToCorner_65 rfl rfl ?_
      obtain ⟨h34, hT⟩ := hT
      refine g_aald6 (npc := 68) dX5_bringLeastToCorner_67 rfl (arSL arSC_44) h34 (frSC_44 h34) ?_
      refine g_iload (npc := 70) dX5_bringLeastToCorner_68 rfl rfl ?_
      obtain ⟨h35, hT⟩ := hT
      refine g_lald (npc := 71) dX5_bringLeastToCorner_70 rfl (arSL (rwSC_44 h34)) h35 ?_
      refine g_lconst (npc := 72) (x := 0) dX5_bringLeastToCorner_71 rfl (by decide) ?_
      obtain ⟨h36, hTt, hTf⟩ := hT
      refine g_leq (pc2 := 73) (npc := 76) (tgt := 87) dX5_bringLeastToCorner_72 rfl dX5_bringLeastToCorner_73 rfl (by decide) ⟨h36, by decide, by decide⟩ (fun c37 => ?_) (fun c37 => ?_)
      · replace hT := hTt c37
        refine g_iinc (npc := 90) (y := (x5 + 1)) (l' := [(0, .ref 42), (1, iV x1), (2, iV x2), (3, iV x3), (4, iV x4), (5, iV (x5 + 1)), (6, iV v28)]) dX5_bringLeastToCorner_87 rfl (by decide) rfl (by omega) rfl ?_
        refine g_goto (npc := 19) dX5_bringLeastToCorner_90 (by decide) ?_
        refine Go.lsub [0, 1, 2, 3, 4, 5] rfl ?_
        exact hT
      · replace hT := hTf c37
        refine g_iload (npc := 78) dX5_bringLeastToCorner_76 rfl rfl ?_
        obtain ⟨h38, hTt, hTf⟩ := hT
        refine g_if_eq (npc := 81) (tgt := 87) dX5_bringLeastToCorner_78 rfl (by decide) h38 (fun c39 => ?_) (fun c39 => ?_)
        · replace hT := hTt c39
          refine g_iinc (npc := 90) (y := (x5 + 1)) (l' := [(0, .ref 42), (1, iV x1), (2, iV x2), (3, iV x3), (4, iV x4), (5, iV (x5 + 1)), (6, iV v28)]) dX5_bringLeastToCorner_87 rfl (by decide) rfl (by omega) rfl ?_
          refine g_goto (npc := 19) dX5_bringLeastToCorner_90 (by decide) ?_
          refine Go.lsub [0, 1, 2, 3, 4, 5] rfl ?_
          exact hT
        · replace hT := hTf c39
          refine g_iload (npc := 83) dX5_bringLeastToCorner_81 rfl rfl ?_
          refine g_istore_n (npc := 84) (l' := [(0, .ref 42), (1, iV x1), (2, iV x4), (3, iV x3), (4, iV x4), (5, iV x5), (6, iV v28)]) dX5_bringLeastToCorner_83 rfl rfl (by decide) rfl ?_
          refine g_iload (npc := 86) dX5_bringLeastToCorner_84 rfl rfl ?_
          refine g_istore_n (npc := 87) (l' := [(0, .ref 42), (1, iV x1), (2, iV x4), (3, iV x5), (4, iV x4), (5, iV x5), (6, iV v28)]) dX5_bringLeastToCorner_86 rfl rfl (by decide) rfl ?_
          refine g_iinc (npc := 90) (y := (x5 + 1)) (l' := [(0, .ref 42), (1, iV x1), (2, iV x4), (3, iV x5), (4, iV x4), (5, iV (x5 + 1)), (6, iV v28)]) dX5_bringLeastToCorner_87 rfl (by decide) rfl (by omega) rfl ?_
          refine g_goto (npc := 19) dX5_bringLeastToCorner_90 (by decide) ?_
          refine Go.lsub [0, 1, 2, 3, 4, 5] rfl ?_
          exact hT
    have K33 : J22 → Go (SL n) M_Ma_bringLeastToCorner (fI Q) 0 0 54 [(0, .ref 42), (1, iV x1), (2, iV x2), (3, iV x3), (4, iV x4), (5, iV x5)] [] s := by
      intro  q49
      replace hT := hj32  q49
      refine g_iconst (npc := 55) dX5_bringLeastToCorner_54 rfl ?_
      refine g_goto (npc := 59) dX5_bringLeastToCorner_55 (by decide) ?_
      exact K41 _ hT
    obtain ⟨h30, hTt, hTf⟩ := hT
    refine g_if_lt (npc := 32) (tgt := 54) dX5_bringLeastToCorner_29 rfl (by decide) h30 (fun c31 => ?_) (fun c31 => ?_)
    · replace hT := hTt c31
      exact K33  hT
    · replace hT := hTf (Int.not_lt.mp c31)
      refine g_aload_n (npc := 33) dX5_bringLeastToCorner_32 rfl rfl rfl ?_
      refine gf_Ma_21 (npc := 36) dX5_bringLeastToCorner_33 rfl rfl ?_
      refine g_iload (npc := 38) dX5_bringLeastToCorner_36 rfl rfl ?_
      obtain ⟨h42, hT⟩ := hT
      refine g_aald6 (npc := 39) dX5_bringLeastToCorner_38 rfl (arSL arSC_44) h42 (frSC_44 h42) ?_
      refine g_iload (npc := 41) dX5_bringLeastToCorner_39 rfl rfl ?_
      obtain ⟨h43, hT⟩ := hT
      refine g_lald (npc := 42) dX5_bringLeastToCorner_41 rfl (arSL (rwSC_44 h42)) h43 ?_
      refine g_aload_n (npc := 43) dX5_bringLeastToCorner_42 rfl rfl rfl ?_
      refine gf_Ma_21 (npc := 46) dX5_bringLeastToCorner_43 rfl rfl ?_
      refine g_iload_n (npc := 47) dX5_bringLeastToCorner_46 rfl rfl rfl ?_
      obtain ⟨h44, hT⟩ := hT
      refine g_aald6 (npc := 48) dX5_bringLeastToCorner_47 rfl (arSL arSC_44) h44 (frSC_44 h44) ?_
      refine g_iload_n (npc := 49) dX5_bringLeastToCorner_48 rfl rfl rfl ?_
      obtain ⟨h45, hT⟩ := hT
      refine g_lald (npc := 50) dX5_bringLeastToCorner_49 rfl (arSL (rwSC_44 h44)) h45 ?_
      obtain ⟨h46, hTt, hTf⟩ := hT
      refine g_lge (pc2 := 51) (npc := 54) (tgt := 58) dX5_bringLeastToCorner_50 rfl dX5_bringLeastToCorner_51 rfl (by decide) h46 (fun c47 => ?_) (fun c47 => ?_)
      · replace hT := hTt c47
        refine g_iconst (npc := 59) dX5_bringLeastToCorner_58 rfl ?_
        exact K41 _ hT
      · replace hT := hTf (Int.not_le.mp c47)
        exact K33  hT
set_option maxRecDepth 20000 in
theorem e_Ma_bringLeastToCorner {n : Nat} {x1 : Int} {s : Sto} {Q : Int → Sto → Prop} (hT : H_Ma_bringLeastToCorner_7 n Q x1 (-1) (-1) x1 s) : K_Ma_bringLeastToCorner n x1 s Q := by
  refine Sp.body (by decide +kernel) (Nat.le_of_ble_eq_true rfl) ?_
  show Go (SL n) M_Ma_bringLeastToCorner (fI Q) 0 0 0 [(0, .ref 42), (1, iV x1)] [] s
  refine g_iconst (npc := 1) dX5_bringLeastToCorner_0 rfl ?_
  refine g_istore_n (npc := 2) (l' := [(0, .ref 42), (1, iV x1), (2, iV (-1))]) dX5_bringLeastToCorner_1 rfl rfl (by decide) rfl ?_
  refine g_iconst (npc := 3) dX5_bringLeastToCorner_2 rfl ?_
  refine g_istore_n (npc := 4) (l' := [(0, .ref 42), (1, iV x1), (2, iV (-1)), (3, iV (-1))]) dX5_bringLeastToCorner_3 rfl rfl (by decide) rfl ?_
  refine g_iload_n (npc := 5) dX5_bringLeastToCorner_4 rfl rfl rfl ?_
  refine g_istore (npc := 7) (l' := [(0, .ref 42), (1, iV x1), (2, iV (-1)), (3, iV (-1)), (4, iV x1)]) dX5_bringLeastToCorner_5 rfl (by decide) rfl ?_
  exact hT
abbrev H_Ma_addRow_3 (n : Nat) (Q : Sto → Prop) (x1 : Int) (x2 : Int) (x3 : Int) (x5 : Int) (x7 : Int) (s : Sto) : Prop := Go (SL n) M_Ma_addRow (fV0 Q) 0 0 3 [(0, .ref 42), (1, iV x1), (2, iV x2), (3, jV x3), (5, jV x5), (7, iV x7)] [] s
set_option maxRecDepth 20000 in
theorem b_Ma_addRow_3 {n : Nat} {Q : Sto → Prop} {x1 : Int} {x2 : Int} {x3 : Int} {x5 : Int} {x7 : Int} {s : Sto} (hT : ((-2147483648 ≤ x7 ∧ x7 < 2147483648) ∧ -2147483648 ≤ (s 42 4) ∧ (s 42 4) < 2147483648) ∧ (((s 42 4) ≤ x7) → Q s) ∧ ((x7 < (s 42 4)) → (-9223372036854775808 ≤ x5 ∧ x5 < 9223372036854775808) ∧ ((x5 = 0) → Q s) ∧ ((¬ x5 = 0) → (0 ≤ x2 ∧ x2 < 8) ∧ (0 ≤ x2 ∧ x2 < 8) ∧ (0 ≤ x7 ∧ x7 < 9) ∧ (0 ≤ x1 ∧ x1 < 8) ∧ (0 ≤ x7 ∧ x7 < 9) ∧ ∃ Q10 : Int → Sto → Prop, K_JM_floorMod n ((s (45 + Int.toNat x2) (Int.toNat x7)) + (x3 * (s (45 + Int.toNat x1) (Int.toNat x7)))) x5 s Q10 ∧ ∀ r13 s12, Q10 r13 s12 → (0 ≤ x7 ∧ x7 < 9) ∧ ∀ s16, s16 = up s12 (45 + Int.toNat x2) (Int.toNat x7) r13 → H_Ma_addRow_3 n Q x1 x2 x3 x5 (x7 + 1) s16))) : H_Ma_addRow_3 n Q x1 x2 x3 x5 x7 s := by
  refine g_iload (npc := 5) dX5_addRow_3 rfl rfl ?_
  refine g_aload_n (npc := 6) dX5_addRow_5 rfl rfl rfl ?_
  refine gf_Ma_24 (npc := 9) dX5_addRow_6 rfl rfl ?_
  obtain ⟨h1, hTt, hTf⟩ := hT
  refine g_icmp_ge (npc := 12) (tgt := 60) dX5_addRow_9 rfl (by decide) h1 (fun c2 => ?_) (fun c2 => ?_)
  · replace hT := hTt c2
    exact g_ret dX5_addRow_60 rfl (by decide) ⟨rfl, hT⟩
  · replace hT := hTf (Int.not_le.mp c2)
    refine g_lload (npc := 14) dX5_addRow_12 rfl rfl ?_
    refine g_lconst (npc := 15) (x := 0) dX5_addRow_14 rfl (by decide) ?_
    obtain ⟨h3, hTt, hTf⟩ := hT
    refine g_leq (pc2 := 16) (npc := 19) (tgt := 60) dX5_addRow_15 rfl dX5_addRow_16 rfl (by decide) ⟨h3, by decide, by decide⟩ (fun c4 => ?_) (fun c4 => ?_)
    · replace hT := hTt c4
      exact g_ret dX5_addRow_60 rfl (by decide) ⟨rfl, hT⟩
    · replace hT := hTf c4
      refine g_aload_n (npc := 20) dX5_addRow_19 rfl rfl rfl ?_
      refine gf_Ma_21 (npc := 23) dX5_addRow_20 rfl rfl ?_
      refine g_iload_n (npc := 24) dX5_addRow_23 rfl rfl rfl ?_
      obtain ⟨h5, hT⟩ := hT
      refine g_aald6 (npc := 25) dX5_addRow_24 rfl (arSL arSC_44) h5 (frSC_44 h5) ?_
      refine g_iload (npc := 27) dX5_addRow_25 rfl rfl ?_
      refine g_aload_n (npc := 28) dX5_addRow_27 rfl rfl rfl ?_
      refine gf_Ma_21 (npc := 31) dX5_addRow_28 rfl rfl ?_
      refine g_iload_n (npc := 32) dX5_addRow_31 rfl rfl rfl ?_
      obtain ⟨h6, hT⟩ := hT
      refine g_aald6 (npc := 33) dX5_addRow_32 rfl (arSL arSC_44) h6 (frSC_44 h6) ?_
      refine g_iload (npc := 35) dX5_addRow_33 rfl rfl ?_
      obtain ⟨h7, hT⟩ := hT
      refine g_lald (npc := 36) dX5_addRow_35 rfl (arSL (rwSC_44 h6)) h7 ?_
      refine g_lload_n (npc := 37) dX5_addRow_36 rfl rfl rfl ?_
      refine g_aload_n (npc := 38) dX5_addRow_37 rfl rfl rfl ?_
      refine gf_Ma_21 (npc := 41) dX5_addRow_38 rfl rfl ?_
      refine g_iload_n (npc := 42) dX5_addRow_41 rfl rfl rfl ?_
      obtain ⟨h8, hT⟩ := hT
      refine g_aald6 (npc := 43) dX5_addRow_42 rfl (arSL arSC_44) h8 (frSC_44 h8) ?_
      refine g_iload (npc := 45) dX5_addRow_43 rfl rfl ?_
      obtain ⟨h9, hT⟩ := hT
      refine g_lald (npc := 46) dX5_addRow_45 rfl (arSL (rwSC_44 h8)) h9 ?_
      refine g_lmul (npc := 47) dX5_addRow_46 rfl ?_
      refine g_ladd (npc := 48) dX5_addRow_47 rfl ?_
      refine g_lload (npc := 50) dX5_addRow_48 rfl rfl ?_
      obtain ⟨Q10, h11, hT⟩ := hT
      refine iv_Ma_86 (npc := 53) dX5_addRow_50 rfl rfl (Nat.le_of_ble_eq_true rfl) (by decide) (by decide) h11 (fun r13 s12 e14 => ?_)
      replace hT := hT r13 s12 e14
      obtain ⟨h15, hT⟩ := hT
      replace hT := hT _ rfl
      refine g_last (npc := 54) dX5_addRow_53 rfl (arSL (rwSC_44 h5)) h15  ?_
      refine g_iinc (npc := 57) (y := (x7 + 1)) (l' := [(0, .ref 42), (1, iV x1), (2, iV x2), (3, jV x3), (5, jV x5), (7, iV (x7 + 1))]) dX5_addRow_54 rfl (by decide) rfl (by omega) rfl ?_
      refine g_goto (npc := 3) dX5_addRow_57 (by decide) ?_
      exact hT
set_option maxRecDepth 20000 in
theorem e_Ma_addRow {n : Nat} {x1 : Int} {x2 : Int} {x3 : Int} {x5 : Int} {s : Sto} {Q : Sto → Prop} (hT : H_Ma_addRow_3 n Q x1 x2 x3 x5 0 s) : K_Ma_addRow n x1 x2 x3 x5 s Q := by
  refine Sp.body (by decide +kernel) (Nat.le_of_ble_eq_true rfl) ?_
  show Go (SL n) M_Ma_addRow (fV0 Q) 0 0 0 [(0, .ref 42), (1, iV x1), (2, iV x2), (3, jV x3), (5, jV x5)] [] s
  refine g_iconst (npc := 1) dX5_addRow_0 rfl ?_
  refine g_istore (npc := 3) (l' := [(0, .ref 42), (1, iV x1), (2, iV x2), (3, jV x3), (5, jV x5), (7, iV 0)]) dX5_addRow_1 rfl (by decide) rfl ?_
  exact hT
abbrev H_Ma_clearColumn_18 (n : Nat) (Q : Int → Sto → Prop) (x1 : Int) (x2 : Int) (x4 : Int) (x6 : Int) (x7 : Int) (s : Sto) : Prop := Go (SL n) M_Ma_clearColumn (fI Q) 0 0 18 [(0, .ref 42), (1, iV x1), (2, jV x2), (4, jV x4), (6, iV x6), (7, iV x7)] [] s
set_option maxRecDepth 20000 in
theorem b_Ma_clearColumn_18 {n : Nat} {Q : Int → Sto → Prop} {x1 : Int} {x2 : Int} {x4 : Int} {x6 : Int} {x7 : Int} {s : Sto} (hT : ((-2147483648 ≤ x7 ∧ x7 < 2147483648) ∧ -2147483648 ≤ (s 42 4) ∧ (s 42 4) < 2147483648) ∧ (((s 42 4) ≤ x7) → (x6 = 0 ∨ x6 = 1) ∧ Q x6 s) ∧ ((x7 < (s 42 4)) → (-9223372036854775808 ≤ x4 ∧ x4 < 9223372036854775808) ∧ ((x4 = 0) → (x6 = 0 ∨ x6 = 1) ∧ Q x6 s) ∧ ((¬ x4 = 0) → (0 ≤ x7 ∧ x7 < 8) ∧ (0 ≤ x1 ∧ x1 < 9) ∧ (((-9223372036854775808 ≤ (s (45 + Int.toNat x7) (Int.toNat x1)) ∧ (s (45 + Int.toNat x7) (Int.toNat x1)) < 9223372036854775808) ∧ -9223372036854775808 ≤ x4 ∧ x4 < 9223372036854775808) ∧ ¬ x4 = 0) ∧ ∃ Q12 : Sto → Prop, K_Ma_addRow n x1 x7 (-(Int.tdiv (s (45 + Int.toNat x7) (Int.toNat x1)) x4)) x2 s Q12 ∧ ∀ s14, Q12 s14 → (0 ≤ x7 ∧ x7 < 8) ∧ (0 ≤ x1 ∧ x1 < 9) ∧ (-9223372036854775808 ≤ (s14 (45 + Int.toNat x7) (Int.toNat x1)) ∧ (s14 (45 + Int.toNat x7) (Int.toNat x1)) < 9223372036854775808) ∧ (((s14 (45 + Int.toNat x7) (Int.toNat x1)) = 0) → H_Ma_clearColumn_18 n Q x1 x2 x4 x6 (x7 + 1) s14) ∧ ((¬ (s14 (45 + Int.toNat x7) (Int.toNat x1)) = 0) → H_Ma_clearColumn_18 n Q x1 x2 x4 0 (x7 + 1) s14)))) : H_Ma_clearColumn_18 n Q x1 x2 x4 x6 x7 s := by
  refine g_iload (npc := 20) dX5_clearColumn_18 rfl rfl ?_
  refine g_aload_n (npc := 21) dX5_clearColumn_20 rfl rfl rfl ?_
  refine gf_Ma_24 (npc := 24) dX5_clearColumn_21 rfl rfl ?_
  obtain ⟨h3, hTt, hTf⟩ := hT
  refine g_icmp_ge (npc := 27) (tgt := 78) dX5_clearColumn_24 rfl (by decide) h3 (fun c4 => ?_) (fun c4 => ?_)
  · replace hT := hTt c4
    refine g_iload (npc := 80) dX5_clearColumn_78 rfl rfl ?_
    obtain ⟨h5, hT⟩ := hT
    exact g_iret dX5_clearColumn_80 rfl (nar_zv h5) (by decide) ⟨_, rfl, hT⟩
  · replace hT := hTf (Int.not_le.mp c4)
    refine g_lload (npc := 29) dX5_clearColumn_27 rfl rfl ?_
    refine g_lconst (npc := 30) (x := 0) dX5_clearColumn_29 rfl (by decide) ?_
    obtain ⟨h6, hTt, hTf⟩ := hT
    refine g_leq (pc2 := 31) (npc := 34) (tgt := 78) dX5_clearColumn_30 rfl dX5_clearColumn_31 rfl (by decide) ⟨h6, by decide, by decide⟩ (fun c7 => ?_) (fun c7 => ?_)
    · replace hT := hTt c7
      refine g_iload (npc := 80) dX5_clearColumn_78 rfl rfl ?_
      obtain ⟨h8, hT⟩ := hT
      exact g_iret dX5_clearColumn_80 rfl (nar_zv h8) (by decide) ⟨_, rfl, hT⟩
    · replace hT := hTf c7
      refine g_aload_n (npc := 35) dX5_clearColumn_34 rfl rfl rfl ?_
      refine g_iload_n (npc := 36) dX5_clearColumn_35 rfl rfl rfl ?_
      refine g_iload (npc := 38) dX5_clearColumn_36 rfl rfl ?_
      refine g_aload_n (npc := 39) dX5_clearColumn_38 rfl rfl rfl ?_
      refine gf_Ma_21 (npc := 42) dX5_clearColumn_39 rfl rfl ?_
      refine g_iload (npc := 44) dX5_clearColumn_42 rfl rfl ?_
      obtain ⟨h9, hT⟩ := hT
      refine g_aald6 (npc := 45) dX5_clearColumn_44 rfl (arSL arSC_44) h9 (frSC_44 h9) ?_
      refine g_iload_n (npc := 46) dX5_clearColumn_45 rfl rfl rfl ?_
      obtain ⟨h10, hT⟩ := hT
      refine g_lald (npc := 47) dX5_clearColumn_46 rfl (arSL (rwSC_44 h9)) h10 ?_
      refine g_lload (npc := 49) dX5_clearColumn_47 rfl rfl ?_
      obtain ⟨h11, hT⟩ := hT
      refine g_ldiv (npc := 50) dX5_clearColumn_49 rfl h11.1 h11.2 ?_
      refine g_lneg (npc := 51) dX5_clearColumn_50 rfl ?_
      refine g_lload_n (npc := 52) dX5_clearColumn_51 rfl rfl rfl ?_
      obtain ⟨Q12, h13, hT⟩ := hT
      refine iv_Ma_115 (npc := 55) dX5_clearColumn_52 rfl rfl (Nat.le_of_ble_eq_true rfl) (by decide) (by decide) h13 (fun s14 e16 => ?_)
      replace hT := hT s14 e16
      refine g_aload_n (npc := 56) dX5_clearColumn_55 rfl rfl rfl ?_
      refine gf_Ma_21 (npc := 59) dX5_clearColumn_56 rfl rfl ?_
      refine g_iload (npc := 61) dX5_clearColumn_59 rfl rfl ?_
      obtain ⟨h17, hT⟩ := hT
      refine g_aald6 (npc := 62) dX5_clearColumn_61 rfl (arSL arSC_44) h17 (frSC_44 h17) ?_
      refine g_iload_n (npc := 63) dX5_clearColumn_62 rfl rfl rfl ?_
      obtain ⟨h18, hT⟩ := hT
      refine g_lald (npc := 64) dX5_clearColumn_63 rfl (arSL (rwSC_44 h17)) h18 ?_
      refine g_lconst (npc := 65) (x := 0) dX5_clearColumn_64 rfl (by decide) ?_
      obtain ⟨h19, hTt, hTf⟩ := hT
      refine g_leq (pc2 := 66) (npc := 69) (tgt := 72) dX5_clearColumn_65 rfl dX5_clearColumn_66 rfl (by decide) ⟨h19, by decide, by decide⟩ (fun c20 => ?_) (fun c20 => ?_)
      · replace hT := hTt c20
        refine g_iinc (npc := 75) (y := (x7 + 1)) (l' := [(0, .ref 42), (1, iV x1), (2, jV x2), (4, jV x4), (6, iV x6), (7, iV (x7 + 1))]) dX5_clearColumn_72 rfl (by decide) rfl (by omega) rfl ?_
        refine g_goto (npc := 18) dX5_clearColumn_75 (by decide) ?_
        exact hT
      · replace hT := hTf c20
        refine g_iconst (npc := 70) dX5_clearColumn_69 rfl ?_
        refine g_istore (npc := 72) (l' := [(0, .ref 42), (1, iV x1), (2, jV x2), (4, jV x4), (6, iV 0), (7, iV x7)]) dX5_clearColumn_70 rfl (by decide) rfl ?_
        refine g_iinc (npc := 75) (y := (x7 + 1)) (l' := [(0, .ref 42), (1, iV x1), (2, jV x2), (4, jV x4), (6, iV 0), (7, iV (x7 + 1))]) dX5_clearColumn_72 rfl (by decide) rfl (by omega) rfl ?_
        refine g_goto (npc := 18) dX5_clearColumn_75 (by decide) ?_
        exact hT
set_option maxRecDepth 20000 in
theorem e_Ma_clearColumn {n : Nat} {x1 : Int} {x2 : Int} {s : Sto} {Q : Int → Sto → Prop} (hT : (0 ≤ x1 ∧ x1 < 8) ∧ (0 ≤ x1 ∧ x1 < 9) ∧ H_Ma_clearColumn_18 n Q x1 x2 (s (45 + Int.toNat x1) (Int.toNat x1)) 1 (x1 + 1) s) : K_Ma_clearColumn n x1 x2 s Q := by
  refine Sp.body (by decide +kernel) (Nat.le_of_ble_eq_true rfl) ?_
  show Go (SL n) M_Ma_clearColumn (fI Q) 0 0 0 [(0, .ref 42), (1, iV x1), (2, jV x2)] [] s
  refine g_aload_n (npc := 1) dX5_clearColumn_0 rfl rfl rfl ?_
  refine gf_Ma_21 (npc := 4) dX5_clearColumn_1 rfl rfl ?_
  refine g_iload_n (npc := 5) dX5_clearColumn_4 rfl rfl rfl ?_
  obtain ⟨h1, hT⟩ := hT
  refine g_aald6 (npc := 6) dX5_clearColumn_5 rfl (arSL arSC_44) h1 (frSC_44 h1) ?_
  refine g_iload_n (npc := 7) dX5_clearColumn_6 rfl rfl rfl ?_
  obtain ⟨h2, hT⟩ := hT
  refine g_lald (npc := 8) dX5_clearColumn_7 rfl (arSL (rwSC_44 h1)) h2 ?_
  refine g_lstore (npc := 10) (l' := [(0, .ref 42), (1, iV x1), (2, jV x2), (4, jV (s (45 + Int.toNat x1) (Int.toNat x1)))]) dX5_clearColumn_8 rfl (by decide) rfl ?_
  refine g_iconst (npc := 11) dX5_clearColumn_10 rfl ?_
  refine g_istore (npc := 13) (l' := [(0, .ref 42), (1, iV x1), (2, jV x2), (4, jV (s (45 + Int.toNat x1) (Int.toNat x1))), (6, iV 1)]) dX5_clearColumn_11 rfl (by decide) rfl ?_
  refine g_iload_n (npc := 14) dX5_clearColumn_13 rfl rfl rfl ?_
  refine g_iconst (npc := 15) dX5_clearColumn_14 rfl ?_
  refine g_iadd (npc := 16) dX5_clearColumn_15 rfl ?_
  refine g_istore (npc := 18) (l' := [(0, .ref 42), (1, iV x1), (2, jV x2), (4, jV (s (45 + Int.toNat x1) (Int.toNat x1))), (6, iV 1), (7, iV (x1 + 1))]) dX5_clearColumn_16 rfl (by decide) rfl ?_
  exact hT
abbrev H_Ma_addColumn_3 (n : Nat) (Q : Sto → Prop) (x1 : Int) (x2 : Int) (x3 : Int) (x5 : Int) (x7 : Int) (s : Sto) : Prop := Go (SL n) M_Ma_addColumn (fV0 Q) 0 0 3 [(0, .ref 42), (1, iV x1), (2, iV x2), (3, jV x3), (5, jV x5), (7, iV x7)] [] s
set_option maxRecDepth 20000 in
theorem b_Ma_addColumn_3 {n : Nat} {Q : Sto → Prop} {x1 : Int} {x2 : Int} {x3 : Int} {x5 : Int} {x7 : Int} {s : Sto} (hT : ((-2147483648 ≤ x7 ∧ x7 < 2147483648) ∧ -2147483648 ≤ (s 42 4) ∧ (s 42 4) < 2147483648) ∧ (((s 42 4) ≤ x7) → Q s) ∧ ((x7 < (s 42 4)) → (-9223372036854775808 ≤ x5 ∧ x5 < 9223372036854775808) ∧ ((x5 = 0) → Q s) ∧ ((¬ x5 = 0) → (0 ≤ x7 ∧ x7 < 8) ∧ (0 ≤ x7 ∧ x7 < 8) ∧ (0 ≤ x2 ∧ x2 < 9) ∧ (0 ≤ x7 ∧ x7 < 8) ∧ (0 ≤ x1 ∧ x1 < 9) ∧ ∃ Q10 : Int → Sto → Prop, K_JM_floorMod n ((s (45 + Int.toNat x7) (Int.toNat x2)) + (x3 * (s (45 + Int.toNat x7) (Int.toNat x1)))) x5 s Q10 ∧ ∀ r13 s12, Q10 r13 s12 → (0 ≤ x2 ∧ x2 < 9) ∧ ∀ s16, s16 = up s12 (45 + Int.toNat x7) (Int.toNat x2) r13 → H_Ma_addColumn_3 n Q x1 x2 x3 x5 (x7 + 1) s16))) : H_Ma_addColumn_3 n Q x1 x2 x3 x5 x7 s := by
  refine g_iload (npc := 5) dX5_addColumn_3 rfl rfl ?_
  refine g_aload_n (npc := 6) dX5_addColumn_5 rfl rfl rfl ?_
  refine gf_Ma_24 (npc := 9) dX5_addColumn_6 rfl rfl ?_
  obtain ⟨h1, hTt, hTf⟩ := hT
  refine g_icmp_ge (npc := 12) (tgt := 60) dX5_addColumn_9 rfl (by decide) h1 (fun c2 => ?_) (fun c2 => ?_)
  · replace hT := hTt c2
    exact g_ret dX5_addColumn_60 rfl (by decide) ⟨rfl, hT⟩
  · replace hT := hTf (Int.not_le.mp c2)
    refine g_lload (npc := 14) dX5_addColumn_12 rfl rfl ?_
    refine g_lconst (npc := 15) (x := 0) dX5_addColumn_14 rfl (by decide) ?_
    obtain ⟨h3, hTt, hTf⟩ := hT
    refine g_leq (pc2 := 16) (npc := 19) (tgt := 60) dX5_addColumn_15 rfl dX5_addColumn_16 rfl (by decide) ⟨h3, by decide, by decide⟩ (fun c4 => ?_) (fun c4 => ?_)
    · replace hT := hTt c4
      exact g_ret dX5_addColumn_60 rfl (by decide) ⟨rfl, hT⟩
    · replace hT := hTf c4
      refine g_aload_n (npc := 20) dX5_addColumn_19 rfl rfl rfl ?_
      refine gf_Ma_21 (npc := 23) dX5_addColumn_20 rfl rfl ?_
      refine g_iload (npc := 25) dX5_addColumn_23 rfl rfl ?_
      obtain ⟨h5, hT⟩ := hT
      refine g_aald6 (npc := 26) dX5_addColumn_25 rfl (arSL arSC_44) h5 (frSC_44 h5) ?_
      refine g_iload_n (npc := 27) dX5_addColumn_26 rfl rfl rfl ?_
      refine g_aload_n (npc := 28) dX5_addColumn_27 rfl rfl rfl ?_
      refine gf_Ma_21 (npc := 31) dX5_addColumn_28 rfl rfl ?_
      refine g_iload (npc := 33) dX5_addColumn_31 rfl rfl ?_
      obtain ⟨h6, hT⟩ := hT
      refine g_aald6 (npc := 34) dX5_addColumn_33 rfl (arSL arSC_44) h6 (frSC_44 h6) ?_
      refine g_iload_n (npc := 35) dX5_addColumn_34 rfl rfl rfl ?_
      obtain ⟨h7, hT⟩ := hT
      refine g_lald (npc := 36) dX5_addColumn_35 rfl (arSL (rwSC_44 h6)) h7 ?_
      refine g_lload_n (npc := 37) dX5_addColumn_36 rfl rfl rfl ?_
      refine g_aload_n (npc := 38) dX5_addColumn_37 rfl rfl rfl ?_
      refine gf_Ma_21 (npc := 41) dX5_addColumn_38 rfl rfl ?_
      refine g_iload (npc := 43) dX5_addColumn_41 rfl rfl ?_
      obtain ⟨h8, hT⟩ := hT
      refine g_aald6 (npc := 44) dX5_addColumn_43 rfl (arSL arSC_44) h8 (frSC_44 h8) ?_
      refine g_iload_n (npc := 45) dX5_addColumn_44 rfl rfl rfl ?_
      obtain ⟨h9, hT⟩ := hT
      refine g_lald (npc := 46) dX5_addColumn_45 rfl (arSL (rwSC_44 h8)) h9 ?_
      refine g_lmul (npc := 47) dX5_addColumn_46 rfl ?_
      refine g_ladd (npc := 48) dX5_addColumn_47 rfl ?_
      refine g_lload (npc := 50) dX5_addColumn_48 rfl rfl ?_
      obtain ⟨Q10, h11, hT⟩ := hT
      refine iv_Ma_86 (npc := 53) dX5_addColumn_50 rfl rfl (Nat.le_of_ble_eq_true rfl) (by decide) (by decide) h11 (fun r13 s12 e14 => ?_)
      replace hT := hT r13 s12 e14
      obtain ⟨h15, hT⟩ := hT
      replace hT := hT _ rfl
      refine g_last (npc := 54) dX5_addColumn_53 rfl (arSL (rwSC_44 h5)) h15  ?_
      refine g_iinc (npc := 57) (y := (x7 + 1)) (l' := [(0, .ref 42), (1, iV x1), (2, iV x2), (3, jV x3), (5, jV x5), (7, iV (x7 + 1))]) dX5_addColumn_54 rfl (by decide) rfl (by omega) rfl ?_
      refine g_goto (npc := 3) dX5_addColumn_57 (by decide) ?_
      exact hT
set_option maxRecDepth 20000 in
theorem e_Ma_addColumn {n : Nat} {x1 : Int} {x2 : Int} {x3 : Int} {x5 : Int} {s : Sto} {Q : Sto → Prop} (hT : H_Ma_addColumn_3 n Q x1 x2 x3 x5 0 s) : K_Ma_addColumn n x1 x2 x3 x5 s Q := by
  refine Sp.body (by decide +kernel) (Nat.le_of_ble_eq_true rfl) ?_
  show Go (SL n) M_Ma_addColumn (fV0 Q) 0 0 0 [(0, .ref 42), (1, iV x1), (2, iV x2), (3, jV x3), (5, jV x5)] [] s
  refine g_iconst (npc := 1) dX5_addColumn_0 rfl ?_
  refine g_istore (npc := 3) (l' := [(0, .ref 42), (1, iV x1), (2, iV x2), (3, jV x3), (5, jV x5), (7, iV 0)]) dX5_addColumn_1 rfl (by decide) rfl ?_
  exact hT
abbrev H_Ma_clearRow_18 (n : Nat) (Q : Int → Sto → Prop) (x1 : Int) (x2 : Int) (x4 : Int) (x6 : Int) (x7 : Int) (s : Sto) : Prop := Go (SL n) M_Ma_clearRow (fI Q) 0 0 18 [(0, .ref 42), (1, iV x1), (2, jV x2), (4, jV x4), (6, iV x6), (7, iV x7)] [] s
set_option maxRecDepth 20000 in
theorem b_Ma_clearRow_18 {n : Nat} {Q : Int → Sto → Prop} {x1 : Int} {x2 : Int} {x4 : Int} {x6 : Int} {x7 : Int} {s : Sto} (hT : ((-2147483648 ≤ x7 ∧ x7 < 2147483648) ∧ -2147483648 ≤ (s 42 4) ∧ (s 42 4) < 2147483648) ∧ (((s 42 4) ≤ x7) → (x6 = 0 ∨ x6 = 1) ∧ Q x6 s) ∧ ((x7 < (s 42 4)) → (-9223372036854775808 ≤ x4 ∧ x4 < 9223372036854775808) ∧ ((x4 = 0) → (x6 = 0 ∨ x6 = 1) ∧ Q x6 s) ∧ ((¬ x4 = 0) → (0 ≤ x1 ∧ x1 < 8) ∧ (0 ≤ x7 ∧ x7 < 9) ∧ (((-9223372036854775808 ≤ (s (45 + Int.toNat x1) (Int.toNat x7)) ∧ (s (45 + Int.toNat x1) (Int.toNat x7)) < 9223372036854775808) ∧ -9223372036854775808 ≤ x4 ∧ x4 < 9223372036854775808) ∧ ¬ x4 = 0) ∧ ∃ Q12 : Sto → Prop, K_Ma_addColumn n x1 x7 (-(Int.tdiv (s (45 + Int.toNat x1) (Int.toNat x7)) x4)) x2 s Q12 ∧ ∀ s14, Q12 s14 → (0 ≤ x1 ∧ x1 < 8) ∧ (0 ≤ x7 ∧ x7 < 9) ∧ (-9223372036854775808 ≤ (s14 (45 + Int.toNat x1) (Int.toNat x7)) ∧ (s14 (45 + Int.toNat x1) (Int.toNat x7)) < 9223372036854775808) ∧ (((s14 (45 + Int.toNat x1) (Int.toNat x7)) = 0) → H_Ma_clearRow_18 n Q x1 x2 x4 x6 (x7 + 1) s14) ∧ ((¬ (s14 (45 + Int.toNat x1) (Int.toNat x7)) = 0) → H_Ma_clearRow_18 n Q x1 x2 x4 0 (x7 + 1) s14)))) : H_Ma_clearRow_18 n Q x1 x2 x4 x6 x7 s := by
  refine g_iload (npc := 20) dX5_clearRow_18 rfl rfl ?_
  refine g_aload_n (npc := 21) dX5_clearRow_20 rfl rfl rfl ?_
  refine gf_Ma_24 (npc := 24) dX5_clearRow_21 rfl rfl ?_
  obtain ⟨h3, hTt, hTf⟩ := hT
  refine g_icmp_ge (npc := 27) (tgt := 78) dX5_clearRow_24 rfl (by decide) h3 (fun c4 => ?_) (fun c4 => ?_)
  · replace hT := hTt c4
    refine g_iload (npc := 80) dX5_clearRow_78 rfl rfl ?_
    obtain ⟨h5, hT⟩ := hT
    exact g_iret dX5_clearRow_80 rfl (nar_zv h5) (by decide) ⟨_, rfl, hT⟩
  · replace hT := hTf (Int.not_le.mp c4)
    refine g_lload (npc := 29) dX5_clearRow_27 rfl rfl ?_
    refine g_lconst (npc := 30) (x := 0) dX5_clearRow_29 rfl (by decide) ?_
    obtain ⟨h6, hTt, hTf⟩ := hT
    refine g_leq (pc2 := 31) (npc := 34) (tgt := 78) dX5_clearRow_30 rfl dX5_clearRow_31 rfl (by decide) ⟨h6, by decide, by decide⟩ (fun c7 => ?_) (fun c7 => ?_)
    · replace hT := hTt c7
      refine g_iload (npc := 80) dX5_clearRow_78 rfl rfl ?_
      obtain ⟨h8, hT⟩ := hT
      exact g_iret dX5_clearRow_80 rfl (nar_zv h8) (by decide) ⟨_, rfl, hT⟩
    · replace hT := hTf c7
      refine g_aload_n (npc := 35) dX5_clearRow_34 rfl rfl rfl ?_
      refine g_iload_n (npc := 36) dX5_clearRow_35 rfl rfl rfl ?_
      refine g_iload (npc := 38) dX5_clearRow_36 rfl rfl ?_
      refine g_aload_n (npc := 39) dX5_clearRow_38 rfl rfl rfl ?_
      refine gf_Ma_21 (npc := 42) dX5_clearRow_39 rfl rfl ?_
      refine g_iload_n (npc := 43) dX5_clearRow_42 rfl rfl rfl ?_
      obtain ⟨h9, hT⟩ := hT
      refine g_aald6 (npc := 44) dX5_clearRow_43 rfl (arSL arSC_44) h9 (frSC_44 h9) ?_
      refine g_iload (npc := 46) dX5_clearRow_44 rfl rfl ?_
      obtain ⟨h10, hT⟩ := hT
      refine g_lald (npc := 47) dX5_clearRow_46 rfl (arSL (rwSC_44 h9)) h10 ?_
      refine g_lload (npc := 49) dX5_clearRow_47 rfl rfl ?_
      obtain ⟨h11, hT⟩ := hT
      refine g_ldiv (npc := 50) dX5_clearRow_49 rfl h11.1 h11.2 ?_
      refine g_lneg (npc := 51) dX5_clearRow_50 rfl ?_
      refine g_lload_n (npc := 52) dX5_clearRow_51 rfl rfl rfl ?_
      obtain ⟨Q12, h13, hT⟩ := hT
      refine iv_Ma_119 (npc := 55) dX5_clearRow_52 rfl rfl (Nat.le_of_ble_eq_true rfl) (by decide) (by decide) h13 (fun s14 e16 => ?_)
      replace hT := hT s14 e16
      refine g_aload_n (npc := 56) dX5_clearRow_55 rfl rfl rfl ?_
      refine gf_Ma_21 (npc := 59) dX5_clearRow_56 rfl rfl ?_
      refine g_iload_n (npc := 60) dX5_clearRow_59 rfl rfl rfl ?_
      obtain ⟨h17, hT⟩ := hT
      refine g_aald6 (npc := 61) dX5_clearRow_60 rfl (arSL arSC_44) h17 (frSC_44 h17) ?_
      refine g_iload (npc := 63) dX5_clearRow_61 rfl rfl ?_
      obtain ⟨h18, hT⟩ := hT
      refine g_lald (npc := 64) dX5_clearRow_63 rfl (arSL (rwSC_44 h17)) h18 ?_
      refine g_lconst (npc := 65) (x := 0) dX5_clearRow_64 rfl (by decide) ?_
      obtain ⟨h19, hTt, hTf⟩ := hT
      refine g_leq (pc2 := 66) (npc := 69) (tgt := 72) dX5_clearRow_65 rfl dX5_clearRow_66 rfl (by decide) ⟨h19, by decide, by decide⟩ (fun c20 => ?_) (fun c20 => ?_)
      · replace hT := hTt c20
        refine g_iinc (npc := 75) (y := (x7 + 1)) (l' := [(0, .ref 42), (1, iV x1), (2, jV x2), (4, jV x4), (6, iV x6), (7, iV (x7 + 1))]) dX5_clearRow_72 rfl (by decide) rfl (by omega) rfl ?_
        refine g_goto (npc := 18) dX5_clearRow_75 (by decide) ?_
        exact hT
      · replace hT := hTf c20
        refine g_iconst (npc := 70) dX5_clearRow_69 rfl ?_
        refine g_istore (npc := 72) (l' := [(0, .ref 42), (1, iV x1), (2, jV x2), (4, jV x4), (6, iV 0), (7, iV x7)]) dX5_clearRow_70 rfl (by decide) rfl ?_
        refine g_iinc (npc := 75) (y := (x7 + 1)) (l' := [(0, .ref 42), (1, iV x1), (2, jV x2), (4, jV x4), (6, iV 0), (7, iV (x7 + 1))]) dX5_clearRow_72 rfl (by decide) rfl (by omega) rfl ?_
        refine g_goto (npc := 18) dX5_clearRow_75 (by decide) ?_
        exact hT
set_option maxRecDepth 20000 in
theorem e_Ma_clearRow {n : Nat} {x1 : Int} {x2 : Int} {s : Sto} {Q : Int → Sto → Prop} (hT : (0 ≤ x1 ∧ x1 < 8) ∧ (0 ≤ x1 ∧ x1 < 9) ∧ H_Ma_clearRow_18 n Q x1 x2 (s (45 + Int.toNat x1) (Int.toNat x1)) 1 (x1 + 1) s) : K_Ma_clearRow n x1 x2 s Q := by
  refine Sp.body (by decide +kernel) (Nat.le_of_ble_eq_true rfl) ?_
  show Go (SL n) M_Ma_clearRow (fI Q) 0 0 0 [(0, .ref 42), (1, iV x1), (2, jV x2)] [] s
  refine g_aload_n (npc := 1) dX5_clearRow_0 rfl rfl rfl ?_
  refine gf_Ma_21 (npc := 4) dX5_clearRow_1 rfl rfl ?_
  refine g_iload_n (npc := 5) dX5_clearRow_4 rfl rfl rfl ?_
  obtain ⟨h1, hT⟩ := hT
  refine g_aald6 (npc := 6) dX5_clearRow_5 rfl (arSL arSC_44) h1 (frSC_44 h1) ?_
  refine g_iload_n (npc := 7) dX5_clearRow_6 rfl rfl rfl ?_
  obtain ⟨h2, hT⟩ := hT
  refine g_lald (npc := 8) dX5_clearRow_7 rfl (arSL (rwSC_44 h1)) h2 ?_
  refine g_lstore (npc := 10) (l' := [(0, .ref 42), (1, iV x1), (2, jV x2), (4, jV (s (45 + Int.toNat x1) (Int.toNat x1)))]) dX5_clearRow_8 rfl (by decide) rfl ?_
  refine g_iconst (npc := 11) dX5_clearRow_10 rfl ?_
  refine g_istore (npc := 13) (l' := [(0, .ref 42), (1, iV x1), (2, jV x2), (4, jV (s (45 + Int.toNat x1) (Int.toNat x1))), (6, iV 1)]) dX5_clearRow_11 rfl (by decide) rfl ?_
  refine g_iload_n (npc := 14) dX5_clearRow_13 rfl rfl rfl ?_
  refine g_iconst (npc := 15) dX5_clearRow_14 rfl ?_
  refine g_iadd (npc := 16) dX5_clearRow_15 rfl ?_
  refine g_istore (npc := 18) (l' := [(0, .ref 42), (1, iV x1), (2, jV x2), (4, jV (s (45 + Int.toNat x1) (Int.toNat x1))), (6, iV 1), (7, iV (x1 + 1))]) dX5_clearRow_16 rfl (by decide) rfl ?_
  exact hT
abbrev H_Ma_addUndividedRow_15 (n : Nat) (Q : Int → Sto → Prop) (x1 : Int) (x2 : Int) (x4 : Int) (x6 : Int) (s : Sto) : Prop := Go (SL n) M_Ma_addUndividedRow (fI Q) 0 0 15 [(0, .ref 42), (1, iV x1), (2, jV x2), (4, jV x4), (6, iV x6)] [] s
abbrev H_Ma_addUndividedRow_29 (n : Nat) (Q : Int → Sto → Prop) (x1 : Int) (x2 : Int) (x4 : Int) (x6 : Int) (x7 : Int) (s : Sto) : Prop := Go (SL n) M_Ma_addUndividedRow (fI Q) 0 0 29 [(0, .ref 42), (1, iV x1), (2, jV x2), (4, jV x4), (6, iV x6), (7, iV x7)] [] s
set_option maxRecDepth 20000 in
theorem b_Ma_addUndividedRow_15 {n : Nat} {Q : Int → Sto → Prop} {x1 : Int} {x2 : Int} {x4 : Int} {x6 : Int} {s : Sto} (hT : ((-2147483648 ≤ x6 ∧ x6 < 2147483648) ∧ -2147483648 ≤ (s 42 4) ∧ (s 42 4) < 2147483648) ∧ (((s 42 4) ≤ x6) → Q 0 s) ∧ ((x6 < (s 42 4)) → H_Ma_addUndividedRow_29 n Q x1 x2 x4 x6 (x1 + 1) s)) : H_Ma_addUndividedRow_15 n Q x1 x2 x4 x6 s := by
  refine g_iload (npc := 17) dX5_addUndividedRow_15 rfl rfl ?_
  refine g_aload_n (npc := 18) dX5_addUndividedRow_17 rfl rfl rfl ?_
  refine gf_Ma_24 (npc := 21) dX5_addUndividedRow_18 rfl rfl ?_
  obtain ⟨h3, hTt, hTf⟩ := hT
  refine g_icmp_ge (npc := 24) (tgt := 86) dX5_addUndividedRow_21 rfl (by decide) h3 (fun c4 => ?_) (fun c4 => ?_)
  · replace hT := hTt c4
    refine g_iconst (npc := 87) dX5_addUndividedRow_86 rfl ?_
    exact g_iret dX5_addUndividedRow_87 rfl (by decide) (by decide) ⟨_, rfl, hT⟩
  · replace hT := hTf (Int.not_le.mp c4)
    refine g_iload_n (npc := 25) dX5_addUndividedRow_24 rfl rfl rfl ?_
    refine g_iconst (npc := 26) dX5_addUndividedRow_25 rfl ?_
    refine g_iadd (npc := 27) dX5_addUndividedRow_26 rfl ?_
    refine g_istore (npc := 29) (l' := [(0, .ref 42), (1, iV x1), (2, jV x2), (4, jV x4), (6, iV x6), (7, iV (x1 + 1))]) dX5_addUndividedRow_27 rfl (by decide) rfl ?_
    exact hT
set_option maxRecDepth 20000 in
theorem b_Ma_addUndividedRow_29 {n : Nat} {Q : Int → Sto → Prop} {x1 : Int} {x2 : Int} {x4 : Int} {x6 : Int} {x7 : Int} {s : Sto} (hT : ((-2147483648 ≤ x7 ∧ x7 < 2147483648) ∧ -2147483648 ≤ (s 42 4) ∧ (s 42 4) < 2147483648) ∧ (((s 42 4) ≤ x7) → H_Ma_addUndividedRow_15 n Q x1 x2 x4 (x6 + 1) s) ∧ ((x7 < (s 42 4)) → (-9223372036854775808 ≤ x4 ∧ x4 < 9223372036854775808) ∧ ((x4 = 0) → H_Ma_addUndividedRow_15 n Q x1 x2 x4 (x6 + 1) s) ∧ ((¬ x4 = 0) → (0 ≤ x6 ∧ x6 < 8) ∧ (0 ≤ x7 ∧ x7 < 9) ∧ (((-9223372036854775808 ≤ (s (45 + Int.toNat x6) (Int.toNat x7)) ∧ (s (45 + Int.toNat x6) (Int.toNat x7)) < 9223372036854775808) ∧ -9223372036854775808 ≤ x4 ∧ x4 < 9223372036854775808) ∧ ¬ x4 = 0) ∧ (-9223372036854775808 ≤ (Int.tmod (s (45 + Int.toNat x6) (Int.toNat x7)) x4) ∧ (Int.tmod (s (45 + Int.toNat x6) (Int.toNat x7)) x4) < 9223372036854775808) ∧ (((Int.tmod (s (45 + Int.toNat x6) (Int.toNat x7)) x4) = 0) → H_Ma_addUndividedRow_29 n Q x1 x2 x4 x6 (x7 + 1) s) ∧ ((¬ (Int.tmod (s (45 + Int.toNat x6) (Int.toNat x7)) x4) = 0) → ∃ Q14 : Sto → Prop, K_Ma_addRow n x6 x1 1 x2 s Q14 ∧ ∀ s16, Q14 s16 → Q 1 s16)))) : H_Ma_addUndividedRow_29 n Q x1 x2 x4 x6 x7 s := by
  refine g_iload (npc := 31) dX5_addUndividedRow_29 rfl rfl ?_
  refine g_aload_n (npc := 32) dX5_addUndividedRow_31 rfl rfl rfl ?_
  refine gf_Ma_24 (npc := 35) dX5_addUndividedRow_32 rfl rfl ?_
  obtain ⟨h5, hTt, hTf⟩ := hT
  refine g_icmp_ge (npc := 38) (tgt := 80) dX5_addUndividedRow_35 rfl (by decide) h5 (fun c6 => ?_) (fun c6 => ?_)
  · replace hT := hTt c6
    refine g_iinc (npc := 83) (y := (x6 + 1)) (l' := [(0, .ref 42), (1, iV x1), (2, jV x2), (4, jV x4), (6, iV (x6 + 1)), (7, iV x7)]) dX5_addUndividedRow_80 rfl (by decide) rfl (by omega) rfl ?_
    refine g_goto (npc := 15) dX5_addUndividedRow_83 (by decide) ?_
    refine Go.lsub [0, 1, 2, 3, 4] rfl ?_
    exact hT
  · replace hT := hTf (Int.not_le.mp c6)
    refine g_lload (npc := 40) dX5_addUndividedRow_38 rfl rfl ?_
    refine g_lconst (npc := 41) (x := 0) dX5_addUndividedRow_40 rfl (by decide) ?_
    obtain ⟨h7, hTt, hTf⟩ := hT
    refine g_leq (pc2 := 42) (npc := 45) (tgt := 80) dX5_addUndividedRow_41 rfl dX5_addUndividedRow_42 rfl (by decide) ⟨h7, by decide, by decide⟩ (fun c8 => ?_) (fun c8 => ?_)
    · replace hT := hTt c8
      refine g_iinc (npc := 83) (y := (x6 + 1)) (l' := [(0, .ref 42), (1, iV x1), (2, jV x2), (4, jV x4), (6, iV (x6 + 1)), (7, iV x7)]) dX5_addUndividedRow_80 rfl (by decide) rfl (by omega) rfl ?_
      refine g_goto (npc := 15) dX5_addUndividedRow_83 (by decide) ?_
      refine Go.lsub [0, 1, 2, 3, 4] rfl ?_
      exact hT
    · replace hT := hTf c8
      refine g_aload_n (npc := 46) dX5_addUndividedRow_45 rfl rfl rfl ?_
      refine gf_Ma_21 (npc := 49) dX5_addUndividedRow_46 rfl rfl ?_
      refine g_iload (npc := 51) dX5_addUndividedRow_49 rfl rfl ?_
      obtain ⟨h9, hT⟩ := hT
      refine g_aald6 (npc := 52) dX5_addUndividedRow_51 rfl (arSL arSC_44) h9 (frSC_44 h9) ?_
      refine g_iload (npc := 54) dX5_addUndividedRow_52 rfl rfl ?_
      obtain ⟨h10, hT⟩ := hT
      refine g_lald (npc := 55) dX5_addUndividedRow_54 rfl (arSL (rwSC_44 h9)) h10 ?_
      refine g_lload (npc := 57) dX5_addUndividedRow_55 rfl rfl ?_
      obtain ⟨h11, hT⟩ := hT
      refine g_lrem (npc := 58) dX5_addUndividedRow_57 rfl h11.1 h11.2 ?_
      refine g_lconst (npc := 59) (x := 0) dX5_addUndividedRow_58 rfl (by decide) ?_
      obtain ⟨h12, hTt, hTf⟩ := hT
      refine g_leq (pc2 := 60) (npc := 63) (tgt := 74) dX5_addUndividedRow_59 rfl dX5_addUndividedRow_60 rfl (by decide) ⟨h12, by decide, by decide⟩ (fun c13 => ?_) (fun c13 => ?_)
      · replace hT := hTt c13
        refine g_iinc (npc := 77) (y := (x7 + 1)) (l' := [(0, .ref 42), (1, iV x1), (2, jV x2), (4, jV x4), (6, iV x6), (7, iV (x7 + 1))]) dX5_addUndividedRow_74 rfl (by decide) rfl (by omega) rfl ?_
        refine g_goto (npc := 29) dX5_addUndividedRow_77 (by decide) ?_
        exact hT
      · replace hT := hTf c13
        refine g_aload_n (npc := 64) dX5_addUndividedRow_63 rfl rfl rfl ?_
        refine g_iload (npc := 66) dX5_addUndividedRow_64 rfl rfl ?_
        refine g_iload_n (npc := 67) dX5_addUndividedRow_66 rfl rfl rfl ?_
        refine g_lconst (npc := 68) (x := 1) dX5_addUndividedRow_67 rfl (by decide) ?_
        refine g_lload_n (npc := 69) dX5_addUndividedRow_68 rfl rfl rfl ?_
        obtain ⟨Q14, h15, hT⟩ := hT
        refine iv_Ma_115 (npc := 72) dX5_addUndividedRow_69 rfl rfl (Nat.le_of_ble_eq_true rfl) (by decide) (by decide) h15 (fun s16 e18 => ?_)
        replace hT := hT s16 e18
        refine g_iconst (npc := 73) dX5_addUndividedRow_72 rfl ?_
        exact g_iret dX5_addUndividedRow_73 rfl (by decide) (by decide) ⟨_, rfl, hT⟩
set_option maxRecDepth 20000 in
theorem e_Ma_addUndividedRow {n : Nat} {x1 : Int} {x2 : Int} {s : Sto} {Q : Int → Sto → Prop} (hT : (0 ≤ x1 ∧ x1 < 8) ∧ (0 ≤ x1 ∧ x1 < 9) ∧ H_Ma_addUndividedRow_15 n Q x1 x2 (s (45 + Int.toNat x1) (Int.toNat x1)) (x1 + 1) s) : K_Ma_addUndividedRow n x1 x2 s Q := by
  refine Sp.body (by decide +kernel) (Nat.le_of_ble_eq_true rfl) ?_
  show Go (SL n) M_Ma_addUndividedRow (fI Q) 0 0 0 [(0, .ref 42), (1, iV x1), (2, jV x2)] [] s
  refine g_aload_n (npc := 1) dX5_addUndividedRow_0 rfl rfl rfl ?_
  refine gf_Ma_21 (npc := 4) dX5_addUndividedRow_1 rfl rfl ?_
  refine g_iload_n (npc := 5) dX5_addUndividedRow_4 rfl rfl rfl ?_
  obtain ⟨h1, hT⟩ := hT
  refine g_aald6 (npc := 6) dX5_addUndividedRow_5 rfl (arSL arSC_44) h1 (frSC_44 h1) ?_
  refine g_iload_n (npc := 7) dX5_addUndividedRow_6 rfl rfl rfl ?_
  obtain ⟨h2, hT⟩ := hT
  refine g_lald (npc := 8) dX5_addUndividedRow_7 rfl (arSL (rwSC_44 h1)) h2 ?_
  refine g_lstore (npc := 10) (l' := [(0, .ref 42), (1, iV x1), (2, jV x2), (4, jV (s (45 + Int.toNat x1) (Int.toNat x1)))]) dX5_addUndividedRow_8 rfl (by decide) rfl ?_
  refine g_iload_n (npc := 11) dX5_addUndividedRow_10 rfl rfl rfl ?_
  refine g_iconst (npc := 12) dX5_addUndividedRow_11 rfl ?_
  refine g_iadd (npc := 13) dX5_addUndividedRow_12 rfl ?_
  refine g_istore (npc := 15) (l' := [(0, .ref 42), (1, iV x1), (2, jV x2), (4, jV (s (45 + Int.toNat x1) (Int.toNat x1))), (6, iV (x1 + 1))]) dX5_addUndividedRow_13 rfl (by decide) rfl ?_
  exact hT
abbrev H_Ma_clearAround_3 (n : Nat) (Q : Sto → Prop) (x1 : Int) (x2 : Int) (x4 : Int) (s : Sto) : Prop := Go (SL n) M_Ma_clearAround (fV0 Q) 0 0 3 [(0, .ref 42), (1, iV x1), (2, jV x2), (4, iV x4)] [] s
set_option maxRecDepth 20000 in
theorem b_Ma_clearAround_3 {n : Nat} {Q : Sto → Prop} {x1 : Int} {x2 : Int} {x4 : Int} {s : Sto} (hT : (-2147483648 ≤ x4 ∧ x4 < 2147483648) ∧ ((1000000 ≤ x4) → Q s) ∧ ((x4 < 1000000) → ∃ Q3 : Int → Sto → Prop, K_Ma_bringLeastToCorner n x1 s Q3 ∧ ∀ r6 s5, Q3 r6 s5 → (-2147483648 ≤ r6 ∧ r6 < 2147483648) ∧ ((¬ r6 = 0) → ∃ Q10 : Int → Sto → Prop, K_Ma_clearColumn n x1 x2 s5 Q10 ∧ ∀ r13 s12, Q10 r13 s12 → ∃ Q15 : Int → Sto → Prop, K_Ma_clearRow n x1 x2 s12 Q15 ∧ ∀ r18 s17, Q15 r18 s17 → (-2147483648 ≤ r13 ∧ r13 < 2147483648) ∧ ((r13 = 0) → H_Ma_clearAround_3 n Q x1 x2 (x4 + 1) s17) ∧ ((¬ r13 = 0) → (-2147483648 ≤ r18 ∧ r18 < 2147483648) ∧ ((r18 = 0) → H_Ma_clearAround_3 n Q x1 x2 (x4 + 1) s17) ∧ ((¬ r18 = 0) → ∃ Q24 : Int → Sto → Prop, K_Ma_addUndividedRow n x1 x2 s17 Q24 ∧ ∀ r27 s26, Q24 r27 s26 → (-2147483648 ≤ r27 ∧ r27 < 2147483648) ∧ ((¬ r27 = 0) → H_Ma_clearAround_3 n Q x1 x2 (x4 + 1) s26) ∧ ((r27 = 0) → Q s26)))) ∧ ((r6 = 0) → Q s5))) : H_Ma_clearAround_3 n Q x1 x2 x4 s := by
  refine g_iload (npc := 5) dX5_clearAround_3 rfl rfl ?_
  refine g_ldc (npc := 7) (x := 1000000) dX5_clearAround_5 rfl tw_577 ?_
  obtain ⟨h1, hTt, hTf⟩ := hT
  refine g_icmp_ge (npc := 10) (tgt := 61) dX5_clearAround_7 rfl (by decide) ⟨h1, by decide, by decide⟩ (fun c2 => ?_) (fun c2 => ?_)
  · replace hT := hTt c2
    exact g_ret dX5_clearAround_61 rfl (by decide) ⟨rfl, hT⟩
  · replace hT := hTf (Int.not_le.mp c2)
    refine g_aload_n (npc := 11) dX5_clearAround_10 rfl rfl rfl ?_
    refine g_iload_n (npc := 12) dX5_clearAround_11 rfl rfl rfl ?_
    obtain ⟨Q3, h4, hT⟩ := hT
    refine iv_Ma_96 (npc := 15) dX5_clearAround_12 rfl rfl (Nat.le_of_ble_eq_true rfl) (by decide) (by decide) h4 (fun r6 s5 e7 => ?_)
    replace hT := hT r6 s5 e7
    obtain ⟨h8, hTt, hTf⟩ := hT
    refine g_if_ne (npc := 18) (tgt := 19) dX5_clearAround_15 rfl (by decide) h8 (fun c9 => ?_) (fun c9 => ?_)
    · replace hT := hTt c9
      refine g_aload_n (npc := 20) dX5_clearAround_19 rfl rfl rfl ?_
      refine g_iload_n (npc := 21) dX5_clearAround_20 rfl rfl rfl ?_
      refine g_lload_n (npc := 22) dX5_clearAround_21 rfl rfl rfl ?_
      obtain ⟨Q10, h11, hT⟩ := hT
      refine iv_Ma_99 (npc := 25) dX5_clearAround_22 rfl rfl (Nat.le_of_ble_eq_true rfl) (by decide) (by decide) h11 (fun r13 s12 e14 => ?_)
      replace hT := hT r13 s12 e14
      refine g_istore (npc := 27) (l' := [(0, .ref 42), (1, iV x1), (2, jV x2), (4, iV x4), (5, iV r13)]) dX5_clearAround_25 rfl (by decide) rfl ?_
      refine g_aload_n (npc := 28) dX5_clearAround_27 rfl rfl rfl ?_
      refine g_iload_n (npc := 29) dX5_clearAround_28 rfl rfl rfl ?_
      refine g_lload_n (npc := 30) dX5_clearAround_29 rfl rfl rfl ?_
      obtain ⟨Q15, h16, hT⟩ := hT
      refine iv_Ma_103 (npc := 33) dX5_clearAround_30 rfl rfl (Nat.le_of_ble_eq_true rfl) (by decide) (by decide) h16 (fun r18 s17 e19 => ?_)
      replace hT := hT r18 s17 e19
      refine g_istore (npc := 35) (l' := [(0, .ref 42), (1, iV x1), (2, jV x2), (4, iV x4), (5, iV r13), (6, iV r18)]) dX5_clearAround_33 rfl (by decide) rfl ?_
      refine g_iload (npc := 37) dX5_clearAround_35 rfl rfl ?_
      obtain ⟨h20, hTt, hTf⟩ := hT
      refine g_if_eq (npc := 40) (tgt := 55) dX5_clearAround_37 rfl (by decide) h20 (fun c21 => ?_) (fun c21 => ?_)
      · replace hT := hTt c21
        refine g_iinc (npc := 58) (y := (x4 + 1)) (l' := [(0, .ref 42), (1, iV x1), (2, jV x2), (4, iV (x4 + 1)), (5, iV r13), (6, iV r18)]) dX5_clearAround_55 rfl (by decide) rfl (by omega) rfl ?_
        refine g_goto (npc := 3) dX5_clearAround_58 (by decide) ?_
        refine Go.lsub [0, 1, 2, 3] rfl ?_
        exact hT
      · replace hT := hTf c21
        refine g_iload (npc := 42) dX5_clearAround_40 rfl rfl ?_
        obtain ⟨h22, hTt, hTf⟩ := hT
        refine g_if_eq (npc := 45) (tgt := 55) dX5_clearAround_42 rfl (by decide) h22 (fun c23 => ?_) (fun c23 => ?_)
        · replace hT := hTt c23
          refine g_iinc (npc := 58) (y := (x4 + 1)) (l' := [(0, .ref 42), (1, iV x1), (2, jV x2), (4, iV (x4 + 1)), (5, iV r13), (6, iV r18)]) dX5_clearAround_55 rfl (by decide) rfl (by omega) rfl ?_
          refine g_goto (npc := 3) dX5_clearAround_58 (by decide) ?_
          refine Go.lsub [0, 1, 2, 3] rfl ?_
          exact hT
        · replace hT := hTf c23
          refine g_aload_n (npc := 46) dX5_clearAround_45 rfl rfl rfl ?_
          refine g_iload_n (npc := 47) dX5_clearAround_46 rfl rfl rfl ?_
          refine g_lload_n (npc := 48) dX5_clearAround_47 rfl rfl rfl ?_
          obtain ⟨Q24, h25, hT⟩ := hT
          refine iv_Ma_106 (npc := 51) dX5_clearAround_48 rfl rfl (Nat.le_of_ble_eq_true rfl) (by decide) (by decide) h25 (fun r27 s26 e28 => ?_)
          replace hT := hT r27 s26 e28
          obtain ⟨h29, hTt, hTf⟩ := hT
          refine g_if_ne (npc := 54) (tgt := 55) dX5_clearAround_51 rfl (by decide) h29 (fun c30 => ?_) (fun c30 => ?_)
          · replace hT := hTt c30
            refine g_iinc (npc := 58) (y := (x4 + 1)) (l' := [(0, .ref 42), (1, iV x1), (2, jV x2), (4, iV (x4 + 1)), (5, iV r13), (6, iV r18)]) dX5_clearAround_55 rfl (by decide) rfl (by omega) rfl ?_
            refine g_goto (npc := 3) dX5_clearAround_58 (by decide) ?_
            refine Go.lsub [0, 1, 2, 3] rfl ?_
            exact hT
          · replace hT := hTf (Decidable.not_not.mp c30)
            exact g_ret dX5_clearAround_54 rfl (by decide) ⟨rfl, hT⟩
    · replace hT := hTf (Decidable.not_not.mp c9)
      exact g_ret dX5_clearAround_18 rfl (by decide) ⟨rfl, hT⟩
set_option maxRecDepth 20000 in
theorem e_Ma_clearAround {n : Nat} {x1 : Int} {x2 : Int} {s : Sto} {Q : Sto → Prop} (hT : H_Ma_clearAround_3 n Q x1 x2 0 s) : K_Ma_clearAround n x1 x2 s Q := by
  refine Sp.body (by decide +kernel) (Nat.le_of_ble_eq_true rfl) ?_
  show Go (SL n) M_Ma_clearAround (fV0 Q) 0 0 0 [(0, .ref 42), (1, iV x1), (2, jV x2)] [] s
  refine g_iconst (npc := 1) dX5_clearAround_0 rfl ?_
  refine g_istore (npc := 3) (l' := [(0, .ref 42), (1, iV x1), (2, jV x2), (4, iV 0)]) dX5_clearAround_1 rfl (by decide) rfl ?_
  exact hT
abbrev H_Ma_findFactors_27 (n : Nat) (Q : Sto → Prop) (x1 : Int) (x3 : Int) (s : Sto) : Prop := Go (SL n) M_Ma_findFactors (fV0 Q) 0 0 27 [(0, .ref 42), (1, jV x1), (3, iV x3)] [] s
abbrev H_Ma_findFactors_38 (n : Nat) (Q : Sto → Prop) (x1 : Int) (x3 : Int) (x4 : Int) (s : Sto) : Prop := Go (SL n) M_Ma_findFactors (fV0 Q) 0 0 38 [(0, .ref 42), (1, jV x1), (3, iV x3), (4, iV x4)] [] s
abbrev H_Ma_findFactors_83 (n : Nat) (Q : Sto → Prop) (x1 : Int) (x3 : Int) (s : Sto) : Prop := Go (SL n) M_Ma_findFactors (fV0 Q) 0 0 83 [(0, .ref 42), (1, jV x1), (3, iV x3)] [] s
set_option maxRecDepth 20000 in
theorem b_Ma_findFactors_27 {n : Nat} {Q : Sto → Prop} {x1 : Int} {x3 : Int} {s : Sto} (hT : ((-2147483648 ≤ x3 ∧ x3 < 2147483648) ∧ -2147483648 ≤ (s 42 4) ∧ (s 42 4) < 2147483648) ∧ (((s 42 4) ≤ x3) → H_Ma_findFactors_83 n Q x1 0 s) ∧ ((x3 < (s 42 4)) → H_Ma_findFactors_38 n Q x1 x3 0 s)) : H_Ma_findFactors_27 n Q x1 x3 s := by
  refine g_iload_n (npc := 28) dX5_findFactors_27 rfl rfl rfl ?_
  refine g_aload_n (npc := 29) dX5_findFactors_28 rfl rfl rfl ?_
  refine gf_Ma_24 (npc := 32) dX5_findFactors_29 rfl rfl ?_
  obtain ⟨h19, hTt, hTf⟩ := hT
  refine g_icmp_ge (npc := 35) (tgt := 81) dX5_findFactors_32 rfl (by decide) h19 (fun c20 => ?_) (fun c20 => ?_)
  · replace hT := hTt c20
    refine g_iconst (npc := 82) dX5_findFactors_81 rfl ?_
    refine g_istore_n (npc := 83) (l' := [(0, .ref 42), (1, jV x1), (3, iV 0)]) dX5_findFactors_82 rfl rfl (by decide) rfl ?_
    exact hT
  · replace hT := hTf (Int.not_le.mp c20)
    refine g_iconst (npc := 36) dX5_findFactors_35 rfl ?_
    refine g_istore (npc := 38) (l' := [(0, .ref 42), (1, jV x1), (3, iV x3), (4, iV 0)]) dX5_findFactors_36 rfl (by decide) rfl ?_
    exact hT
set_option maxRecDepth 20000 in
theorem b_Ma_findFactors_38 {n : Nat} {Q : Sto → Prop} {x1 : Int} {x3 : Int} {x4 : Int} {s : Sto} (hT : ((-2147483648 ≤ x4 ∧ x4 < 2147483648) ∧ -2147483648 ≤ (s 42 4) ∧ (s 42 4) < 2147483648) ∧ (((s 42 4) ≤ x4) → H_Ma_findFactors_27 n Q x1 (x3 + 1) s) ∧ ((x4 < (s 42 4)) → (0 ≤ x3 ∧ x3 < 8) ∧ (0 ≤ x3 ∧ x3 < 8) ∧ (0 ≤ x4 ∧ x4 < 9) ∧ ∃ Q45 : Int → Sto → Prop, K_JM_floorMod n (s (45 + Int.toNat x3) (Int.toNat x4)) x1 s Q45 ∧ ∀ r48 s47, Q45 r48 s47 → (0 ≤ x4 ∧ x4 < 9) ∧ ∀ s51, s51 = up s47 (45 + Int.toNat x3) (Int.toNat x4) r48 → H_Ma_findFactors_38 n Q x1 x3 (x4 + 1) s51)) : H_Ma_findFactors_38 n Q x1 x3 x4 s := by
  refine g_iload (npc := 40) dX5_findFactors_38 rfl rfl ?_
  refine g_aload_n (npc := 41) dX5_findFactors_40 rfl rfl rfl ?_
  refine gf_Ma_24 (npc := 44) dX5_findFactors_41 rfl rfl ?_
  obtain ⟨h40, hTt, hTf⟩ := hT
  refine g_icmp_ge (npc := 47) (tgt := 75) dX5_findFactors_44 rfl (by decide) h40 (fun c41 => ?_) (fun c41 => ?_)
  · replace hT := hTt c41
    refine g_iinc (npc := 78) (y := (x3 + 1)) (l' := [(0, .ref 42), (1, jV x1), (3, iV (x3 + 1)), (4, iV x4)]) dX5_findFactors_75 rfl (by decide) rfl (by omega) rfl ?_
    refine g_goto (npc := 27) dX5_findFactors_78 (by decide) ?_
    refine Go.lsub [0, 1, 2] rfl ?_
    exact hT
  · replace hT := hTf (Int.not_le.mp c41)
    refine g_aload_n (npc := 48) dX5_findFactors_47 rfl rfl rfl ?_
    refine gf_Ma_21 (npc := 51) dX5_findFactors_48 rfl rfl ?_
    refine g_iload_n (npc := 52) dX5_findFactors_51 rfl rfl rfl ?_
    obtain ⟨h42, hT⟩ := hT
    refine g_aald6 (npc := 53) dX5_findFactors_52 rfl (arSL arSC_44) h42 (frSC_44 h42) ?_
    refine g_iload (npc := 55) dX5_findFactors_53 rfl rfl ?_
    refine g_aload_n (npc := 56) dX5_findFactors_55 rfl rfl rfl ?_
    refine gf_Ma_21 (npc := 59) dX5_findFactors_56 rfl rfl ?_
    refine g_iload_n (npc := 60) dX5_findFactors_59 rfl rfl rfl ?_
    obtain ⟨h43, hT⟩ := hT
    refine g_aald6 (npc := 61) dX5_findFactors_60 rfl (arSL arSC_44) h43 (frSC_44 h43) ?_
    refine g_iload (npc := 63) dX5_findFactors_61 rfl rfl ?_
    obtain ⟨h44, hT⟩ := hT
    refine g_lald (npc := 64) dX5_findFactors_63 rfl (arSL (rwSC_44 h43)) h44 ?_
    refine g_lload_n (npc := 65) dX5_findFactors_64 rfl rfl rfl ?_
    obtain ⟨Q45, h46, hT⟩ := hT
    refine iv_Ma_86 (npc := 68) dX5_findFactors_65 rfl rfl (Nat.le_of_ble_eq_true rfl) (by decide) (by decide) h46 (fun r48 s47 e49 => ?_)
    replace hT := hT r48 s47 e49
    obtain ⟨h50, hT⟩ := hT
    replace hT := hT _ rfl
    refine g_last (npc := 69) dX5_findFactors_68 rfl (arSL (rwSC_44 h42)) h50  ?_
    refine g_iinc (npc := 72) (y := (x4 + 1)) (l' := [(0, .ref 42), (1, jV x1), (3, iV x3), (4, iV (x4 + 1))]) dX5_findFactors_69 rfl (by decide) rfl (by omega) rfl ?_
    refine g_goto (npc := 38) dX5_findFactors_72 (by decide) ?_
    exact hT
set_option maxRecDepth 20000 in
theorem b_Ma_findFactors_83 {n : Nat} {Q : Sto → Prop} {x1 : Int} {x3 : Int} {s : Sto} (hT : ((-2147483648 ≤ x3 ∧ x3 < 2147483648) ∧ -2147483648 ≤ (s 42 4) ∧ (s 42 4) < 2147483648) ∧ (((s 42 4) ≤ x3) → Q s) ∧ ((x3 < (s 42 4)) → ∃ Q23 : Sto → Prop, K_Ma_clearAround n x3 x1 s Q23 ∧ ∀ s25, Q23 s25 → (0 ≤ x3 ∧ x3 < 8) ∧ (0 ≤ x3 ∧ x3 < 9) ∧ ∃ Q30 : Int → Sto → Prop, K_Ma_commonDivisor n (s25 (45 + Int.toNat x3) (Int.toNat x3)) x1 s25 Q30 ∧ ∀ r33 s32, Q30 r33 s32 → (-9223372036854775808 ≤ r33 ∧ r33 < 9223372036854775808) ∧ ((r33 ≤ 1) → H_Ma_findFactors_83 n Q x1 (x3 + 1) s32) ∧ ((1 < r33) → (0 ≤ (s32 42 1) ∧ (s32 42 1) < 8) ∧ ∀ s38, s38 = up s32 43 (Int.toNat (s32 42 1)) r33 → ∀ s39, s39 = up s38 42 1 ((s38 42 1) + 1) → H_Ma_findFactors_83 n Q x1 (x3 + 1) s39))) : H_Ma_findFactors_83 n Q x1 x3 s := by
  refine g_iload_n (npc := 84) dX5_findFactors_83 rfl rfl rfl ?_
  refine g_aload_n (npc := 85) dX5_findFactors_84 rfl rfl rfl ?_
  refine gf_Ma_24 (npc := 88) dX5_findFactors_85 rfl rfl ?_
  obtain ⟨h21, hTt, hTf⟩ := hT
  refine g_icmp_ge (npc := 91) (tgt := 145) dX5_findFactors_88 rfl (by decide) h21 (fun c22 => ?_) (fun c22 => ?_)
  · replace hT := hTt c22
    exact g_ret dX5_findFactors_145 rfl (by decide) ⟨rfl, hT⟩
  · replace hT := hTf (Int.not_le.mp c22)
    refine g_aload_n (npc := 92) dX5_findFactors_91 rfl rfl rfl ?_
    refine g_iload_n (npc := 93) dX5_findFactors_92 rfl rfl rfl ?_
    refine g_lload_n (npc := 94) dX5_findFactors_93 rfl rfl rfl ?_
    obtain ⟨Q23, h24, hT⟩ := hT
    refine iv_Ma_91 (npc := 97) dX5_findFactors_94 rfl rfl (Nat.le_of_ble_eq_true rfl) (by decide) (by decide) h24 (fun s25 e27 => ?_)
    replace hT := hT s25 e27
    refine g_aload_n (npc := 98) dX5_findFactors_97 rfl rfl rfl ?_
    refine gf_Ma_21 (npc := 101) dX5_findFactors_98 rfl rfl ?_
    refine g_iload_n (npc := 102) dX5_findFactors_101 rfl rfl rfl ?_
    obtain ⟨h28, hT⟩ := hT
    refine g_aald6 (npc := 103) dX5_findFactors_102 rfl (arSL arSC_44) h28 (frSC_44 h28) ?_
    refine g_iload_n (npc := 104) dX5_findFactors_103 rfl rfl rfl ?_
    obtain ⟨h29, hT⟩ := hT
    refine g_lald (npc := 105) dX5_findFactors_104 rfl (arSL (rwSC_44 h28)) h29 ?_
    refine g_lload_n (npc := 106) dX5_findFactors_105 rfl rfl rfl ?_
    obtain ⟨Q30, h31, hT⟩ := hT
    refine iv_Ma_82 (npc := 109) dX5_findFactors_106 rfl rfl (Nat.le_of_ble_eq_true rfl) (by decide) (by decide) h31 (fun r33 s32 e34 => ?_)
    replace hT := hT r33 s32 e34
    refine g_lstore (npc := 111) (l' := [(0, .ref 42), (1, jV x1), (3, iV x3), (4, jV r33)]) dX5_findFactors_109 rfl (by decide) rfl ?_
    refine g_lload (npc := 113) dX5_findFactors_111 rfl rfl ?_
    refine g_lconst (npc := 114) (x := 1) dX5_findFactors_113 rfl (by decide) ?_
    obtain ⟨h35, hTt, hTf⟩ := hT
    refine g_lle (pc2 := 115) (npc := 118) (tgt := 139) dX5_findFactors_114 rfl dX5_findFactors_115 rfl (by decide) ⟨h35, by decide, by decide⟩ (fun c36 => ?_) (fun c36 => ?_)
    · replace hT := hTt c36
      refine g_iinc (npc := 142) (y := (x3 + 1)) (l' := [(0, .ref 42), (1, jV x1), (3, iV (x3 + 1)), (4, jV r33)]) dX5_findFactors_139 rfl (by decide) rfl (by omega) rfl ?_
      refine g_goto (npc := 83) dX5_findFactors_142 (by decide) ?_
      refine Go.lsub [0, 1, 2] rfl ?_
      exact hT
    · replace hT := hTf (Int.not_le.mp c36)
      refine g_aload_n (npc := 119) dX5_findFactors_118 rfl rfl rfl ?_
      refine gf_Ma_9 (npc := 122) dX5_findFactors_119 rfl rfl ?_
      refine g_aload_n (npc := 123) dX5_findFactors_122 rfl rfl rfl ?_
      refine gf_Ma_15 (npc := 126) dX5_findFactors_123 rfl rfl ?_
      refine g_lload (npc := 128) dX5_findFactors_126 rfl rfl ?_
      obtain ⟨h37, hT⟩ := hT
      replace hT := hT _ rfl
      refine g_last (npc := 129) dX5_findFactors_128 rfl (arSL arSC_43) h37  ?_
      refine g_aload_n (npc := 130) dX5_findFactors_129 rfl rfl rfl ?_
      refine g_dup (npc := 131) dX5_findFactors_130 rfl rfl ?_
      refine gf_Ma_15 (npc := 134) dX5_findFactors_131 rfl rfl ?_
      refine g_iconst (npc := 135) dX5_findFactors_134 rfl ?_
      refine g_iadd (npc := 136) dX5_findFactors_135 rfl ?_
      replace hT := hT _ rfl
      refine pf_Ma_15 (npc := 139) dX5_findFactors_136 rfl rfl ?_
      refine g_iinc (npc := 142) (y := (x3 + 1)) (l' := [(0, .ref 42), (1, jV x1), (3, iV (x3 + 1)), (4, jV r33)]) dX5_findFactors_139 rfl (by decide) rfl (by omega) rfl ?_
      refine g_goto (npc := 83) dX5_findFactors_142 (by decide) ?_
      refine Go.lsub [0, 1, 2] rfl ?_
      exact hT
set_option maxRecDepth 20000 in
theorem e_Ma_findFactors {n : Nat} {s : Sto} {Q : Sto → Prop} (hT : ∀ s1, s1 = up s 42 1 0 → ∃ Q2 : Sto → Prop, K_Ma_fillWhole n s1 Q2 ∧ ∀ s4, Q2 s4 → ∃ Q7 : Int → Sto → Prop, K_Ma_eliminate n s4 Q7 ∧ ∀ r10 s9, Q7 r10 s9 → (-9223372036854775808 ≤ r10 ∧ r10 < 9223372036854775808) ∧ ((0 < r10) → ∃ Q14 : Sto → Prop, K_Ma_fillWhole n s9 Q14 ∧ ∀ s16, Q14 s16 → H_Ma_findFactors_27 n Q r10 0 s16) ∧ ((r10 ≤ 0) → Q s9)) : K_Ma_findFactors n s Q := by
  refine Sp.body (by decide +kernel) (Nat.le_of_ble_eq_true rfl) ?_
  show Go (SL n) M_Ma_findFactors (fV0 Q) 0 0 0 [(0, .ref 42)] [] s
  refine g_aload_n (npc := 1) dX5_findFactors_0 rfl rfl rfl ?_
  refine g_iconst (npc := 2) dX5_findFactors_1 rfl ?_
  replace hT := hT _ rfl
  refine pf_Ma_15 (npc := 5) dX5_findFactors_2 rfl rfl ?_
  refine g_aload_n (npc := 6) dX5_findFactors_5 rfl rfl rfl ?_
  obtain ⟨Q2, h3, hT⟩ := hT
  refine iv_Ma_75 (npc := 9) dX5_findFactors_6 rfl rfl (Nat.le_of_ble_eq_true rfl) (by decide) (by decide) h3 (fun s4 e6 => ?_)
  replace hT := hT s4 e6
  refine g_aload_n (npc := 10) dX5_findFactors_9 rfl rfl rfl ?_
  obtain ⟨Q7, h8, hT⟩ := hT
  refine iv_Ma_78 (npc := 13) dX5_findFactors_10 rfl rfl (Nat.le_of_ble_eq_true rfl) (by decide) (by decide) h8 (fun r10 s9 e11 => ?_)
  replace hT := hT r10 s9 e11
  refine g_lstore_n (npc := 14) (l' := [(0, .ref 42), (1, jV r10)]) dX5_findFactors_13 rfl rfl (by decide) rfl ?_
  refine g_lload_n (npc := 15) dX5_findFactors_14 rfl rfl rfl ?_
  refine g_lconst (npc := 16) (x := 0) dX5_findFactors_15 rfl (by decide) ?_
  obtain ⟨h12, hTt, hTf⟩ := hT
  refine g_lgt (pc2 := 17) (npc := 20) (tgt := 21) dX5_findFactors_16 rfl dX5_findFactors_17 rfl (by decide) ⟨h12, by decide, by decide⟩ (fun c13 => ?_) (fun c13 => ?_)
  · replace hT := hTt c13
    refine g_aload_n (npc := 22) dX5_findFactors_21 rfl rfl rfl ?_
    obtain ⟨Q14, h15, hT⟩ := hT
    refine iv_Ma_75 (npc := 25) dX5_findFactors_22 rfl rfl (Nat.le_of_ble_eq_true rfl) (by decide) (by decide) h15 (fun s16 e18 => ?_)
    replace hT := hT s16 e18
    refine g_iconst (npc := 26) dX5_findFactors_25 rfl ?_
    refine g_istore_n (npc := 27) (l' := [(0, .ref 42), (1, jV r10), (3, iV 0)]) dX5_findFactors_26 rfl rfl (by decide) rfl ?_
    exact hT
  · replace hT := hTf (Int.not_lt.mp c13)
    exact g_ret dX5_findFactors_20 rfl (by decide) ⟨rfl, hT⟩
