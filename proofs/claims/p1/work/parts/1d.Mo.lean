/-! blocks of ChipGameModel -/
theorem dX11_in_0 : decode cX11_in 0 = .ok (.iload_n 0, 1) := by decide +kernel
theorem dX11_in_1 : decode cX11_in 1 = .ok (.iload_n 1, 1) := by decide +kernel
theorem dX11_in_2 : decode cX11_in 2 = .ok (.if_icmp .lt 12, 3) := by decide +kernel
theorem dX11_in_5 : decode cX11_in 5 = .ok (.iload_n 0, 1) := by decide +kernel
theorem dX11_in_6 : decode cX11_in 6 = .ok (.iload_n 2, 1) := by decide +kernel
theorem dX11_in_7 : decode cX11_in 7 = .ok (.if_icmp .gt 7, 3) := by decide +kernel
theorem dX11_in_10 : decode cX11_in 10 = .ok (.iconst 1, 1) := by decide +kernel
theorem dX11_in_11 : decode cX11_in 11 = .ok (.goto 4, 3) := by decide +kernel
theorem dX11_in_14 : decode cX11_in 14 = .ok (.iconst 0, 1) := by decide +kernel
theorem dX11_in_15 : decode cX11_in 15 = .ok (.ireturn, 1) := by decide +kernel
theorem dX11_lost_0 : decode cX11_lost 0 = .ok (.ldc2_w 75, 3) := by decide +kernel
theorem dX11_lost_3 : decode cX11_lost 3 = .ok (.lreturn, 1) := by decide +kernel
theorem dX11_begin_0 : decode cX11_begin 0 = .ok (.aload_n 0, 1) := by decide +kernel
theorem dX11_begin_1 : decode cX11_begin 1 = .ok (.iload_n 1, 1) := by decide +kernel
theorem dX11_begin_2 : decode cX11_begin 2 = .ok (.putfield 77, 3) := by decide +kernel
theorem dX11_begin_5 : decode cX11_begin 5 = .ok (.aload_n 0, 1) := by decide +kernel
theorem dX11_begin_6 : decode cX11_begin 6 = .ok (.iconst 0, 1) := by decide +kernel
theorem dX11_begin_7 : decode cX11_begin 7 = .ok (.putfield 81, 3) := by decide +kernel
theorem dX11_begin_10 : decode cX11_begin 10 = .ok (.aload_n 0, 1) := by decide +kernel
theorem dX11_begin_11 : decode cX11_begin 11 = .ok (.iconst 0, 1) := by decide +kernel
theorem dX11_begin_12 : decode cX11_begin 12 = .ok (.putfield 84, 3) := by decide +kernel
theorem dX11_begin_15 : decode cX11_begin 15 = .ok (.iconst 0, 1) := by decide +kernel
theorem dX11_begin_16 : decode cX11_begin 16 = .ok (.istore_n 2, 1) := by decide +kernel
theorem dX11_begin_17 : decode cX11_begin 17 = .ok (.iload_n 2, 1) := by decide +kernel
theorem dX11_begin_18 : decode cX11_begin 18 = .ok (.bipush 8, 2) := by decide +kernel
theorem dX11_begin_20 : decode cX11_begin 20 = .ok (.if_icmp .ge 16, 3) := by decide +kernel
theorem dX11_begin_23 : decode cX11_begin 23 = .ok (.aload_n 0, 1) := by decide +kernel
theorem dX11_begin_24 : decode cX11_begin 24 = .ok (.getfield 22, 3) := by decide +kernel
theorem dX11_begin_27 : decode cX11_begin 27 = .ok (.iload_n 2, 1) := by decide +kernel
theorem dX11_begin_28 : decode cX11_begin 28 = .ok (.iconst 0, 1) := by decide +kernel
theorem dX11_begin_29 : decode cX11_begin 29 = .ok (.iastore, 1) := by decide +kernel
theorem dX11_begin_30 : decode cX11_begin 30 = .ok (.iinc 2 1, 3) := by decide +kernel
theorem dX11_begin_33 : decode cX11_begin 33 = .ok (.goto (-16), 3) := by decide +kernel
theorem dX11_begin_36 : decode cX11_begin 36 = .ok (.aload_n 0, 1) := by decide +kernel
theorem dX11_begin_37 : decode cX11_begin 37 = .ok (.invokevirtual 87, 3) := by decide +kernel
theorem dX11_begin_40 : decode cX11_begin 40 = .ok (.return_, 1) := by decide +kernel
theorem dX11_changed_0 : decode cX11_changed 0 = .ok (.iconst 0, 1) := by decide +kernel
theorem dX11_changed_1 : decode cX11_changed 1 = .ok (.istore_n 1, 1) := by decide +kernel
theorem dX11_changed_2 : decode cX11_changed 2 = .ok (.iload_n 1, 1) := by decide +kernel
theorem dX11_changed_3 : decode cX11_changed 3 = .ok (.bipush 64, 2) := by decide +kernel
theorem dX11_changed_5 : decode cX11_changed 5 = .ok (.if_icmp .ge 16, 3) := by decide +kernel
theorem dX11_changed_8 : decode cX11_changed 8 = .ok (.aload_n 0, 1) := by decide +kernel
theorem dX11_changed_9 : decode cX11_changed 9 = .ok (.getfield 16, 3) := by decide +kernel
theorem dX11_changed_12 : decode cX11_changed 12 = .ok (.iload_n 1, 1) := by decide +kernel
theorem dX11_changed_13 : decode cX11_changed 13 = .ok (.iconst 0, 1) := by decide +kernel
theorem dX11_changed_14 : decode cX11_changed 14 = .ok (.iastore, 1) := by decide +kernel
theorem dX11_changed_15 : decode cX11_changed 15 = .ok (.iinc 1 1, 3) := by decide +kernel
theorem dX11_changed_18 : decode cX11_changed 18 = .ok (.goto (-16), 3) := by decide +kernel
theorem dX11_changed_21 : decode cX11_changed 21 = .ok (.iconst 0, 1) := by decide +kernel
theorem dX11_changed_22 : decode cX11_changed 22 = .ok (.istore_n 1, 1) := by decide +kernel
theorem dX11_changed_23 : decode cX11_changed 23 = .ok (.iload_n 1, 1) := by decide +kernel
theorem dX11_changed_24 : decode cX11_changed 24 = .ok (.bipush 8, 2) := by decide +kernel
theorem dX11_changed_26 : decode cX11_changed 26 = .ok (.if_icmp .ge 16, 3) := by decide +kernel
theorem dX11_changed_29 : decode cX11_changed 29 = .ok (.aload_n 0, 1) := by decide +kernel
theorem dX11_changed_30 : decode cX11_changed 30 = .ok (.getfield 19, 3) := by decide +kernel
theorem dX11_changed_33 : decode cX11_changed 33 = .ok (.iload_n 1, 1) := by decide +kernel
theorem dX11_changed_34 : decode cX11_changed 34 = .ok (.iconst 0, 1) := by decide +kernel
theorem dX11_changed_35 : decode cX11_changed 35 = .ok (.iastore, 1) := by decide +kernel
theorem dX11_changed_36 : decode cX11_changed 36 = .ok (.iinc 1 1, 3) := by decide +kernel
theorem dX11_changed_39 : decode cX11_changed 39 = .ok (.goto (-16), 3) := by decide +kernel
theorem dX11_changed_42 : decode cX11_changed 42 = .ok (.iconst 0, 1) := by decide +kernel
theorem dX11_changed_43 : decode cX11_changed 43 = .ok (.istore_n 1, 1) := by decide +kernel
theorem dX11_changed_44 : decode cX11_changed 44 = .ok (.iload_n 1, 1) := by decide +kernel
theorem dX11_changed_45 : decode cX11_changed 45 = .ok (.aload_n 0, 1) := by decide +kernel
theorem dX11_changed_46 : decode cX11_changed 46 = .ok (.getfield 81, 3) := by decide +kernel
theorem dX11_changed_49 : decode cX11_changed 49 = .ok (.if_icmp .ge 89, 3) := by decide +kernel
theorem dX11_changed_52 : decode cX11_changed 52 = .ok (.aload_n 0, 1) := by decide +kernel
theorem dX11_changed_53 : decode cX11_changed 53 = .ok (.getfield 16, 3) := by decide +kernel
theorem dX11_changed_56 : decode cX11_changed 56 = .ok (.bipush 8, 2) := by decide +kernel
theorem dX11_changed_58 : decode cX11_changed 58 = .ok (.aload_n 0, 1) := by decide +kernel
theorem dX11_changed_59 : decode cX11_changed 59 = .ok (.getfield 7, 3) := by decide +kernel
theorem dX11_changed_62 : decode cX11_changed 62 = .ok (.iload_n 1, 1) := by decide +kernel
theorem dX11_changed_63 : decode cX11_changed 63 = .ok (.iaload, 1) := by decide +kernel
theorem dX11_changed_64 : decode cX11_changed 64 = .ok (.imul, 1) := by decide +kernel
theorem dX11_changed_65 : decode cX11_changed 65 = .ok (.aload_n 0, 1) := by decide +kernel
theorem dX11_changed_66 : decode cX11_changed 66 = .ok (.getfield 13, 3) := by decide +kernel
theorem dX11_changed_69 : decode cX11_changed 69 = .ok (.iload_n 1, 1) := by decide +kernel
theorem dX11_changed_70 : decode cX11_changed 70 = .ok (.iaload, 1) := by decide +kernel
theorem dX11_changed_71 : decode cX11_changed 71 = .ok (.iadd, 1) := by decide +kernel
theorem dX11_changed_72 : decode cX11_changed 72 = .ok (.dup2, 1) := by decide +kernel
theorem dX11_changed_73 : decode cX11_changed 73 = .ok (.iaload, 1) := by decide +kernel
theorem dX11_changed_74 : decode cX11_changed 74 = .ok (.iconst 1, 1) := by decide +kernel
theorem dX11_changed_75 : decode cX11_changed 75 = .ok (.iadd, 1) := by decide +kernel
theorem dX11_changed_76 : decode cX11_changed 76 = .ok (.iastore, 1) := by decide +kernel
theorem dX11_changed_77 : decode cX11_changed 77 = .ok (.aload_n 0, 1) := by decide +kernel
theorem dX11_changed_78 : decode cX11_changed 78 = .ok (.getfield 16, 3) := by decide +kernel
theorem dX11_changed_81 : decode cX11_changed 81 = .ok (.bipush 8, 2) := by decide +kernel
theorem dX11_changed_83 : decode cX11_changed 83 = .ok (.aload_n 0, 1) := by decide +kernel
theorem dX11_changed_84 : decode cX11_changed 84 = .ok (.getfield 13, 3) := by decide +kernel
theorem dX11_changed_87 : decode cX11_changed 87 = .ok (.iload_n 1, 1) := by decide +kernel
theorem dX11_changed_88 : decode cX11_changed 88 = .ok (.iaload, 1) := by decide +kernel
theorem dX11_changed_89 : decode cX11_changed 89 = .ok (.imul, 1) := by decide +kernel
theorem dX11_changed_90 : decode cX11_changed 90 = .ok (.aload_n 0, 1) := by decide +kernel
theorem dX11_changed_91 : decode cX11_changed 91 = .ok (.getfield 7, 3) := by decide +kernel
theorem dX11_changed_94 : decode cX11_changed 94 = .ok (.iload_n 1, 1) := by decide +kernel
theorem dX11_changed_95 : decode cX11_changed 95 = .ok (.iaload, 1) := by decide +kernel
theorem dX11_changed_96 : decode cX11_changed 96 = .ok (.iadd, 1) := by decide +kernel
theorem dX11_changed_97 : decode cX11_changed 97 = .ok (.dup2, 1) := by decide +kernel
theorem dX11_changed_98 : decode cX11_changed 98 = .ok (.iaload, 1) := by decide +kernel
theorem dX11_changed_99 : decode cX11_changed 99 = .ok (.iconst 1, 1) := by decide +kernel
theorem dX11_changed_100 : decode cX11_changed 100 = .ok (.iadd, 1) := by decide +kernel
theorem dX11_changed_101 : decode cX11_changed 101 = .ok (.iastore, 1) := by decide +kernel
theorem dX11_changed_102 : decode cX11_changed 102 = .ok (.aload_n 0, 1) := by decide +kernel
theorem dX11_changed_103 : decode cX11_changed 103 = .ok (.getfield 19, 3) := by decide +kernel
theorem dX11_changed_106 : decode cX11_changed 106 = .ok (.aload_n 0, 1) := by decide +kernel
theorem dX11_changed_107 : decode cX11_changed 107 = .ok (.getfield 7, 3) := by decide +kernel
theorem dX11_changed_110 : decode cX11_changed 110 = .ok (.iload_n 1, 1) := by decide +kernel
theorem dX11_changed_111 : decode cX11_changed 111 = .ok (.iaload, 1) := by decide +kernel
theorem dX11_changed_112 : decode cX11_changed 112 = .ok (.dup2, 1) := by decide +kernel
theorem dX11_changed_113 : decode cX11_changed 113 = .ok (.iaload, 1) := by decide +kernel
theorem dX11_changed_114 : decode cX11_changed 114 = .ok (.iconst 1, 1) := by decide +kernel
theorem dX11_changed_115 : decode cX11_changed 115 = .ok (.iadd, 1) := by decide +kernel
theorem dX11_changed_116 : decode cX11_changed 116 = .ok (.iastore, 1) := by decide +kernel
theorem dX11_changed_117 : decode cX11_changed 117 = .ok (.aload_n 0, 1) := by decide +kernel
theorem dX11_changed_118 : decode cX11_changed 118 = .ok (.getfield 19, 3) := by decide +kernel
theorem dX11_changed_121 : decode cX11_changed 121 = .ok (.aload_n 0, 1) := by decide +kernel
theorem dX11_changed_122 : decode cX11_changed 122 = .ok (.getfield 13, 3) := by decide +kernel
theorem dX11_changed_125 : decode cX11_changed 125 = .ok (.iload_n 1, 1) := by decide +kernel
theorem dX11_changed_126 : decode cX11_changed 126 = .ok (.iaload, 1) := by decide +kernel
theorem dX11_changed_127 : decode cX11_changed 127 = .ok (.dup2, 1) := by decide +kernel
theorem dX11_changed_128 : decode cX11_changed 128 = .ok (.iaload, 1) := by decide +kernel
theorem dX11_changed_129 : decode cX11_changed 129 = .ok (.iconst 1, 1) := by decide +kernel
theorem dX11_changed_130 : decode cX11_changed 130 = .ok (.iadd, 1) := by decide +kernel
theorem dX11_changed_131 : decode cX11_changed 131 = .ok (.iastore, 1) := by decide +kernel
theorem dX11_changed_132 : decode cX11_changed 132 = .ok (.iinc 1 1, 3) := by decide +kernel
theorem dX11_changed_135 : decode cX11_changed 135 = .ok (.goto (-91), 3) := by decide +kernel
theorem dX11_changed_138 : decode cX11_changed 138 = .ok (.aload_n 0, 1) := by decide +kernel
theorem dX11_changed_139 : decode cX11_changed 139 = .ok (.iconst 0, 1) := by decide +kernel
theorem dX11_changed_140 : decode cX11_changed 140 = .ok (.putfield 90, 3) := by decide +kernel
theorem dX11_changed_143 : decode cX11_changed 143 = .ok (.iconst 0, 1) := by decide +kernel
theorem dX11_changed_144 : decode cX11_changed 144 = .ok (.istore_n 1, 1) := by decide +kernel
theorem dX11_changed_145 : decode cX11_changed 145 = .ok (.iload_n 1, 1) := by decide +kernel
theorem dX11_changed_146 : decode cX11_changed 146 = .ok (.iconst 3, 1) := by decide +kernel
theorem dX11_changed_147 : decode cX11_changed 147 = .ok (.if_icmp .ge 16, 3) := by decide +kernel
theorem dX11_changed_150 : decode cX11_changed 150 = .ok (.aload_n 0, 1) := by decide +kernel
theorem dX11_changed_151 : decode cX11_changed 151 = .ok (.getfield 35, 3) := by decide +kernel
theorem dX11_changed_154 : decode cX11_changed 154 = .ok (.iload_n 1, 1) := by decide +kernel
theorem dX11_changed_155 : decode cX11_changed 155 = .ok (.iconst 0, 1) := by decide +kernel
theorem dX11_changed_156 : decode cX11_changed 156 = .ok (.bastore, 1) := by decide +kernel
theorem dX11_changed_157 : decode cX11_changed 157 = .ok (.iinc 1 1, 3) := by decide +kernel
theorem dX11_changed_160 : decode cX11_changed 160 = .ok (.goto (-15), 3) := by decide +kernel
theorem dX11_changed_163 : decode cX11_changed 163 = .ok (.aload_n 0, 1) := by decide +kernel
theorem dX11_changed_164 : decode cX11_changed 164 = .ok (.iconst 0, 1) := by decide +kernel
theorem dX11_changed_165 : decode cX11_changed 165 = .ok (.putfield 93, 3) := by decide +kernel
theorem dX11_changed_168 : decode cX11_changed 168 = .ok (.return_, 1) := by decide +kernel
theorem dX11_join_0 : decode cX11_join 0 = .ok (.aload_n 0, 1) := by decide +kernel
theorem dX11_join_1 : decode cX11_join 1 = .ok (.getfield 7, 3) := by decide +kernel
theorem dX11_join_4 : decode cX11_join 4 = .ok (.aload_n 0, 1) := by decide +kernel
theorem dX11_join_5 : decode cX11_join 5 = .ok (.getfield 81, 3) := by decide +kernel
theorem dX11_join_8 : decode cX11_join 8 = .ok (.iload_n 1, 1) := by decide +kernel
theorem dX11_join_9 : decode cX11_join 9 = .ok (.iastore, 1) := by decide +kernel
theorem dX11_join_10 : decode cX11_join 10 = .ok (.aload_n 0, 1) := by decide +kernel
theorem dX11_join_11 : decode cX11_join 11 = .ok (.getfield 13, 3) := by decide +kernel
theorem dX11_join_14 : decode cX11_join 14 = .ok (.aload_n 0, 1) := by decide +kernel
theorem dX11_join_15 : decode cX11_join 15 = .ok (.getfield 81, 3) := by decide +kernel
theorem dX11_join_18 : decode cX11_join 18 = .ok (.iload_n 2, 1) := by decide +kernel
theorem dX11_join_19 : decode cX11_join 19 = .ok (.iastore, 1) := by decide +kernel
theorem dX11_join_20 : decode cX11_join 20 = .ok (.aload_n 0, 1) := by decide +kernel
theorem dX11_join_21 : decode cX11_join 21 = .ok (.dup, 1) := by decide +kernel
theorem dX11_join_22 : decode cX11_join 22 = .ok (.getfield 81, 3) := by decide +kernel
theorem dX11_join_25 : decode cX11_join 25 = .ok (.iconst 1, 1) := by decide +kernel
theorem dX11_join_26 : decode cX11_join 26 = .ok (.iadd, 1) := by decide +kernel
theorem dX11_join_27 : decode cX11_join 27 = .ok (.putfield 81, 3) := by decide +kernel
theorem dX11_join_30 : decode cX11_join 30 = .ok (.aload_n 0, 1) := by decide +kernel
theorem dX11_join_31 : decode cX11_join 31 = .ok (.invokevirtual 87, 3) := by decide +kernel
theorem dX11_join_34 : decode cX11_join 34 = .ok (.return_, 1) := by decide +kernel
theorem dX11_reset_0 : decode cX11_reset 0 = .ok (.iload_n 1, 1) := by decide +kernel
theorem dX11_reset_1 : decode cX11_reset 1 = .ok (.iconst 2, 1) := by decide +kernel
theorem dX11_reset_2 : decode cX11_reset 2 = .ok (.bipush 8, 2) := by decide +kernel
theorem dX11_reset_4 : decode cX11_reset 4 = .ok (.invokestatic 97, 3) := by decide +kernel
theorem dX11_reset_7 : decode cX11_reset 7 = .ok (.ifCond .ne 7, 3) := by decide +kernel
theorem dX11_reset_10 : decode cX11_reset 10 = .ok (.sipush (-10002), 3) := by decide +kernel
theorem dX11_reset_13 : decode cX11_reset 13 = .ok (.ireturn, 1) := by decide +kernel
theorem dX11_reset_14 : decode cX11_reset 14 = .ok (.aload_n 0, 1) := by decide +kernel
theorem dX11_reset_15 : decode cX11_reset 15 = .ok (.getfield 77, 3) := by decide +kernel
theorem dX11_reset_18 : decode cX11_reset 18 = .ok (.istore_n 2, 1) := by decide +kernel
theorem dX11_reset_19 : decode cX11_reset 19 = .ok (.aload_n 0, 1) := by decide +kernel
theorem dX11_reset_20 : decode cX11_reset 20 = .ok (.iload_n 1, 1) := by decide +kernel
theorem dX11_reset_21 : decode cX11_reset 21 = .ok (.invokevirtual 67, 3) := by decide +kernel
theorem dX11_reset_24 : decode cX11_reset 24 = .ok (.iload_n 2, 1) := by decide +kernel
theorem dX11_reset_25 : decode cX11_reset 25 = .ok (.ireturn, 1) := by decide +kernel
theorem dX11_isNode_0 : decode cX11_isNode 0 = .ok (.iload_n 1, 1) := by decide +kernel
theorem dX11_isNode_1 : decode cX11_isNode 1 = .ok (.iconst 0, 1) := by decide +kernel
theorem dX11_isNode_2 : decode cX11_isNode 2 = .ok (.aload_n 0, 1) := by decide +kernel
theorem dX11_isNode_3 : decode cX11_isNode 3 = .ok (.getfield 77, 3) := by decide +kernel
theorem dX11_isNode_6 : decode cX11_isNode 6 = .ok (.iconst 1, 1) := by decide +kernel
theorem dX11_isNode_7 : decode cX11_isNode 7 = .ok (.isub, 1) := by decide +kernel
theorem dX11_isNode_8 : decode cX11_isNode 8 = .ok (.invokestatic 97, 3) := by decide +kernel
theorem dX11_isNode_11 : decode cX11_isNode 11 = .ok (.ireturn, 1) := by decide +kernel
theorem dX11_hasChips_0 : decode cX11_hasChips 0 = .ok (.aload_n 0, 1) := by decide +kernel
theorem dX11_hasChips_1 : decode cX11_hasChips 1 = .ok (.iload_n 1, 1) := by decide +kernel
theorem dX11_hasChips_2 : decode cX11_hasChips 2 = .ok (.invokevirtual 101, 3) := by decide +kernel
theorem dX11_hasChips_5 : decode cX11_hasChips 5 = .ok (.ifCond .eq 15, 3) := by decide +kernel
theorem dX11_hasChips_8 : decode cX11_hasChips 8 = .ok (.iload_n 1, 1) := by decide +kernel
theorem dX11_hasChips_9 : decode cX11_hasChips 9 = .ok (.aload_n 0, 1) := by decide +kernel
theorem dX11_hasChips_10 : decode cX11_hasChips 10 = .ok (.getfield 84, 3) := by decide +kernel
theorem dX11_hasChips_13 : decode cX11_hasChips 13 = .ok (.if_icmp .eq 7, 3) := by decide +kernel
theorem dX11_hasChips_16 : decode cX11_hasChips 16 = .ok (.iconst 1, 1) := by decide +kernel
theorem dX11_hasChips_17 : decode cX11_hasChips 17 = .ok (.goto 4, 3) := by decide +kernel
theorem dX11_hasChips_20 : decode cX11_hasChips 20 = .ok (.iconst 0, 1) := by decide +kernel
theorem dX11_hasChips_21 : decode cX11_hasChips 21 = .ok (.ireturn, 1) := by decide +kernel
theorem dX11_addEdge_0 : decode cX11_addEdge 0 = .ok (.aload_n 0, 1) := by decide +kernel
theorem dX11_addEdge_1 : decode cX11_addEdge 1 = .ok (.iload_n 1, 1) := by decide +kernel
theorem dX11_addEdge_2 : decode cX11_addEdge 2 = .ok (.invokevirtual 101, 3) := by decide +kernel
theorem dX11_addEdge_5 : decode cX11_addEdge 5 = .ok (.ifCond .eq 11, 3) := by decide +kernel
theorem dX11_addEdge_8 : decode cX11_addEdge 8 = .ok (.aload_n 0, 1) := by decide +kernel
theorem dX11_addEdge_9 : decode cX11_addEdge 9 = .ok (.iload_n 2, 1) := by decide +kernel
theorem dX11_addEdge_10 : decode cX11_addEdge 10 = .ok (.invokevirtual 101, 3) := by decide +kernel
theorem dX11_addEdge_13 : decode cX11_addEdge 13 = .ok (.ifCond .ne 7, 3) := by decide +kernel
theorem dX11_addEdge_16 : decode cX11_addEdge 16 = .ok (.sipush (-10001), 3) := by decide +kernel
theorem dX11_addEdge_19 : decode cX11_addEdge 19 = .ok (.ireturn, 1) := by decide +kernel
theorem dX11_addEdge_20 : decode cX11_addEdge 20 = .ok (.iload_n 1, 1) := by decide +kernel
theorem dX11_addEdge_21 : decode cX11_addEdge 21 = .ok (.iload_n 2, 1) := by decide +kernel
theorem dX11_addEdge_22 : decode cX11_addEdge 22 = .ok (.if_icmp .ne 7, 3) := by decide +kernel
theorem dX11_addEdge_25 : decode cX11_addEdge 25 = .ok (.sipush (-10002), 3) := by decide +kernel
theorem dX11_addEdge_28 : decode cX11_addEdge 28 = .ok (.ireturn, 1) := by decide +kernel
theorem dX11_addEdge_29 : decode cX11_addEdge 29 = .ok (.aload_n 0, 1) := by decide +kernel
theorem dX11_addEdge_30 : decode cX11_addEdge 30 = .ok (.getfield 81, 3) := by decide +kernel
theorem dX11_addEdge_33 : decode cX11_addEdge 33 = .ok (.bipush 20, 2) := by decide +kernel
theorem dX11_addEdge_35 : decode cX11_addEdge 35 = .ok (.if_icmp .ne 7, 3) := by decide +kernel
theorem dX11_addEdge_38 : decode cX11_addEdge 38 = .ok (.sipush (-10005), 3) := by decide +kernel
theorem dX11_addEdge_41 : decode cX11_addEdge 41 = .ok (.ireturn, 1) := by decide +kernel
theorem dX11_addEdge_42 : decode cX11_addEdge 42 = .ok (.aload_n 0, 1) := by decide +kernel
theorem dX11_addEdge_43 : decode cX11_addEdge 43 = .ok (.iload_n 1, 1) := by decide +kernel
theorem dX11_addEdge_44 : decode cX11_addEdge 44 = .ok (.iload_n 2, 1) := by decide +kernel
theorem dX11_addEdge_45 : decode cX11_addEdge 45 = .ok (.invokevirtual 71, 3) := by decide +kernel
theorem dX11_addEdge_48 : decode cX11_addEdge 48 = .ok (.aload_n 0, 1) := by decide +kernel
theorem dX11_addEdge_49 : decode cX11_addEdge 49 = .ok (.getfield 81, 3) := by decide +kernel
theorem dX11_addEdge_52 : decode cX11_addEdge 52 = .ok (.iconst 1, 1) := by decide +kernel
theorem dX11_addEdge_53 : decode cX11_addEdge 53 = .ok (.isub, 1) := by decide +kernel
theorem dX11_addEdge_54 : decode cX11_addEdge 54 = .ok (.ireturn, 1) := by decide +kernel
theorem dX11_removeEdge_0 : decode cX11_removeEdge 0 = .ok (.iload_n 1, 1) := by decide +kernel
theorem dX11_removeEdge_1 : decode cX11_removeEdge 1 = .ok (.iconst 0, 1) := by decide +kernel
theorem dX11_removeEdge_2 : decode cX11_removeEdge 2 = .ok (.aload_n 0, 1) := by decide +kernel
theorem dX11_removeEdge_3 : decode cX11_removeEdge 3 = .ok (.getfield 81, 3) := by decide +kernel
theorem dX11_removeEdge_6 : decode cX11_removeEdge 6 = .ok (.iconst 1, 1) := by decide +kernel
theorem dX11_removeEdge_7 : decode cX11_removeEdge 7 = .ok (.isub, 1) := by decide +kernel
theorem dX11_removeEdge_8 : decode cX11_removeEdge 8 = .ok (.invokestatic 97, 3) := by decide +kernel
theorem dX11_removeEdge_11 : decode cX11_removeEdge 11 = .ok (.ifCond .ne 7, 3) := by decide +kernel
theorem dX11_removeEdge_14 : decode cX11_removeEdge 14 = .ok (.sipush (-10001), 3) := by decide +kernel
theorem dX11_removeEdge_17 : decode cX11_removeEdge 17 = .ok (.ireturn, 1) := by decide +kernel
theorem dX11_removeEdge_18 : decode cX11_removeEdge 18 = .ok (.aload_n 0, 1) := by decide +kernel
theorem dX11_removeEdge_19 : decode cX11_removeEdge 19 = .ok (.dup, 1) := by decide +kernel
theorem dX11_removeEdge_20 : decode cX11_removeEdge 20 = .ok (.getfield 81, 3) := by decide +kernel
theorem dX11_removeEdge_23 : decode cX11_removeEdge 23 = .ok (.iconst 1, 1) := by decide +kernel
theorem dX11_removeEdge_24 : decode cX11_removeEdge 24 = .ok (.isub, 1) := by decide +kernel
theorem dX11_removeEdge_25 : decode cX11_removeEdge 25 = .ok (.putfield 81, 3) := by decide +kernel
theorem dX11_removeEdge_28 : decode cX11_removeEdge 28 = .ok (.iload_n 1, 1) := by decide +kernel
theorem dX11_removeEdge_29 : decode cX11_removeEdge 29 = .ok (.istore_n 2, 1) := by decide +kernel
theorem dX11_removeEdge_30 : decode cX11_removeEdge 30 = .ok (.iload_n 2, 1) := by decide +kernel
theorem dX11_removeEdge_31 : decode cX11_removeEdge 31 = .ok (.aload_n 0, 1) := by decide +kernel
theorem dX11_removeEdge_32 : decode cX11_removeEdge 32 = .ok (.getfield 81, 3) := by decide +kernel
theorem dX11_removeEdge_35 : decode cX11_removeEdge 35 = .ok (.if_icmp .ge 37, 3) := by decide +kernel
theorem dX11_removeEdge_38 : decode cX11_removeEdge 38 = .ok (.aload_n 0, 1) := by decide +kernel
theorem dX11_removeEdge_39 : decode cX11_removeEdge 39 = .ok (.getfield 7, 3) := by decide +kernel
theorem dX11_removeEdge_42 : decode cX11_removeEdge 42 = .ok (.iload_n 2, 1) := by decide +kernel
theorem dX11_removeEdge_43 : decode cX11_removeEdge 43 = .ok (.aload_n 0, 1) := by decide +kernel
theorem dX11_removeEdge_44 : decode cX11_removeEdge 44 = .ok (.getfield 7, 3) := by decide +kernel
theorem dX11_removeEdge_47 : decode cX11_removeEdge 47 = .ok (.iload_n 2, 1) := by decide +kernel
theorem dX11_removeEdge_48 : decode cX11_removeEdge 48 = .ok (.iconst 1, 1) := by decide +kernel
theorem dX11_removeEdge_49 : decode cX11_removeEdge 49 = .ok (.iadd, 1) := by decide +kernel
theorem dX11_removeEdge_50 : decode cX11_removeEdge 50 = .ok (.iaload, 1) := by decide +kernel
theorem dX11_removeEdge_51 : decode cX11_removeEdge 51 = .ok (.iastore, 1) := by decide +kernel
theorem dX11_removeEdge_52 : decode cX11_removeEdge 52 = .ok (.aload_n 0, 1) := by decide +kernel
theorem dX11_removeEdge_53 : decode cX11_removeEdge 53 = .ok (.getfield 13, 3) := by decide +kernel
theorem dX11_removeEdge_56 : decode cX11_removeEdge 56 = .ok (.iload_n 2, 1) := by decide +kernel
theorem dX11_removeEdge_57 : decode cX11_removeEdge 57 = .ok (.aload_n 0, 1) := by decide +kernel
theorem dX11_removeEdge_58 : decode cX11_removeEdge 58 = .ok (.getfield 13, 3) := by decide +kernel
theorem dX11_removeEdge_61 : decode cX11_removeEdge 61 = .ok (.iload_n 2, 1) := by decide +kernel
theorem dX11_removeEdge_62 : decode cX11_removeEdge 62 = .ok (.iconst 1, 1) := by decide +kernel
theorem dX11_removeEdge_63 : decode cX11_removeEdge 63 = .ok (.iadd, 1) := by decide +kernel
theorem dX11_removeEdge_64 : decode cX11_removeEdge 64 = .ok (.iaload, 1) := by decide +kernel
theorem dX11_removeEdge_65 : decode cX11_removeEdge 65 = .ok (.iastore, 1) := by decide +kernel
theorem dX11_removeEdge_66 : decode cX11_removeEdge 66 = .ok (.iinc 2 1, 3) := by decide +kernel
theorem dX11_removeEdge_69 : decode cX11_removeEdge 69 = .ok (.goto (-39), 3) := by decide +kernel
theorem dX11_removeEdge_72 : decode cX11_removeEdge 72 = .ok (.aload_n 0, 1) := by decide +kernel
theorem dX11_removeEdge_73 : decode cX11_removeEdge 73 = .ok (.invokevirtual 87, 3) := by decide +kernel
theorem dX11_removeEdge_76 : decode cX11_removeEdge 76 = .ok (.aload_n 0, 1) := by decide +kernel
theorem dX11_removeEdge_77 : decode cX11_removeEdge 77 = .ok (.getfield 81, 3) := by decide +kernel
theorem dX11_removeEdge_80 : decode cX11_removeEdge 80 = .ok (.ireturn, 1) := by decide +kernel
theorem dX11_setSink_0 : decode cX11_setSink 0 = .ok (.aload_n 0, 1) := by decide +kernel
theorem dX11_setSink_1 : decode cX11_setSink 1 = .ok (.iload_n 1, 1) := by decide +kernel
theorem dX11_setSink_2 : decode cX11_setSink 2 = .ok (.invokevirtual 101, 3) := by decide +kernel
theorem dX11_setSink_5 : decode cX11_setSink 5 = .ok (.ifCond .ne 7, 3) := by decide +kernel
theorem dX11_setSink_8 : decode cX11_setSink 8 = .ok (.sipush (-10001), 3) := by decide +kernel
theorem dX11_setSink_11 : decode cX11_setSink 11 = .ok (.ireturn, 1) := by decide +kernel
theorem dX11_setSink_12 : decode cX11_setSink 12 = .ok (.aload_n 0, 1) := by decide +kernel
theorem dX11_setSink_13 : decode cX11_setSink 13 = .ok (.getfield 84, 3) := by decide +kernel
theorem dX11_setSink_16 : decode cX11_setSink 16 = .ok (.istore_n 2, 1) := by decide +kernel
theorem dX11_setSink_17 : decode cX11_setSink 17 = .ok (.iload_n 1, 1) := by decide +kernel
theorem dX11_setSink_18 : decode cX11_setSink 18 = .ok (.aload_n 0, 1) := by decide +kernel
theorem dX11_setSink_19 : decode cX11_setSink 19 = .ok (.getfield 84, 3) := by decide +kernel
theorem dX11_setSink_22 : decode cX11_setSink 22 = .ok (.if_icmp .eq 19, 3) := by decide +kernel
theorem dX11_setSink_25 : decode cX11_setSink 25 = .ok (.aload_n 0, 1) := by decide +kernel
theorem dX11_setSink_26 : decode cX11_setSink 26 = .ok (.iload_n 1, 1) := by decide +kernel
theorem dX11_setSink_27 : decode cX11_setSink 27 = .ok (.putfield 84, 3) := by decide +kernel
theorem dX11_setSink_30 : decode cX11_setSink 30 = .ok (.aload_n 0, 1) := by decide +kernel
theorem dX11_setSink_31 : decode cX11_setSink 31 = .ok (.getfield 22, 3) := by decide +kernel
theorem dX11_setSink_34 : decode cX11_setSink 34 = .ok (.iload_n 1, 1) := by decide +kernel
theorem dX11_setSink_35 : decode cX11_setSink 35 = .ok (.iconst 0, 1) := by decide +kernel
theorem dX11_setSink_36 : decode cX11_setSink 36 = .ok (.iastore, 1) := by decide +kernel
theorem dX11_setSink_37 : decode cX11_setSink 37 = .ok (.aload_n 0, 1) := by decide +kernel
theorem dX11_setSink_38 : decode cX11_setSink 38 = .ok (.invokevirtual 87, 3) := by decide +kernel
theorem dX11_setSink_41 : decode cX11_setSink 41 = .ok (.iload_n 2, 1) := by decide +kernel
theorem dX11_setSink_42 : decode cX11_setSink 42 = .ok (.ireturn, 1) := by decide +kernel
theorem dX11_type_0 : decode cX11_type 0 = .ok (.aload_n 0, 1) := by decide +kernel
theorem dX11_type_1 : decode cX11_type 1 = .ok (.getfield 105, 3) := by decide +kernel
theorem dX11_type_4 : decode cX11_type 4 = .ok (.bipush 12, 2) := by decide +kernel
theorem dX11_type_6 : decode cX11_type 6 = .ok (.if_icmp .ne 7, 3) := by decide +kernel
theorem dX11_type_9 : decode cX11_type 9 = .ok (.sipush (-10005), 3) := by decide +kernel
theorem dX11_type_12 : decode cX11_type 12 = .ok (.ireturn, 1) := by decide +kernel
theorem dX11_type_13 : decode cX11_type 13 = .ok (.aload_n 0, 1) := by decide +kernel
theorem dX11_type_14 : decode cX11_type 14 = .ok (.getfield 25, 3) := by decide +kernel
theorem dX11_type_17 : decode cX11_type 17 = .ok (.aload_n 0, 1) := by decide +kernel
theorem dX11_type_18 : decode cX11_type 18 = .ok (.getfield 105, 3) := by decide +kernel
theorem dX11_type_21 : decode cX11_type 21 = .ok (.iload_n 1, 1) := by decide +kernel
theorem dX11_type_22 : decode cX11_type 22 = .ok (.castore, 1) := by decide +kernel
theorem dX11_type_23 : decode cX11_type 23 = .ok (.aload_n 0, 1) := by decide +kernel
theorem dX11_type_24 : decode cX11_type 24 = .ok (.dup, 1) := by decide +kernel
theorem dX11_type_25 : decode cX11_type 25 = .ok (.getfield 105, 3) := by decide +kernel
theorem dX11_type_28 : decode cX11_type 28 = .ok (.iconst 1, 1) := by decide +kernel
theorem dX11_type_29 : decode cX11_type 29 = .ok (.iadd, 1) := by decide +kernel
theorem dX11_type_30 : decode cX11_type 30 = .ok (.putfield 105, 3) := by decide +kernel
theorem dX11_type_33 : decode cX11_type 33 = .ok (.aload_n 0, 1) := by decide +kernel
theorem dX11_type_34 : decode cX11_type 34 = .ok (.getfield 105, 3) := by decide +kernel
theorem dX11_type_37 : decode cX11_type 37 = .ok (.ireturn, 1) := by decide +kernel
theorem dX11_clearText_0 : decode cX11_clearText 0 = .ok (.aload_n 0, 1) := by decide +kernel
theorem dX11_clearText_1 : decode cX11_clearText 1 = .ok (.getfield 105, 3) := by decide +kernel
theorem dX11_clearText_4 : decode cX11_clearText 4 = .ok (.istore_n 1, 1) := by decide +kernel
theorem dX11_clearText_5 : decode cX11_clearText 5 = .ok (.aload_n 0, 1) := by decide +kernel
theorem dX11_clearText_6 : decode cX11_clearText 6 = .ok (.iconst 0, 1) := by decide +kernel
theorem dX11_clearText_7 : decode cX11_clearText 7 = .ok (.putfield 105, 3) := by decide +kernel
theorem dX11_clearText_10 : decode cX11_clearText 10 = .ok (.iload_n 1, 1) := by decide +kernel
theorem dX11_clearText_11 : decode cX11_clearText 11 = .ok (.ireturn, 1) := by decide +kernel
theorem dX11_isAt_0 : decode cX11_isAt 0 = .ok (.iload_n 1, 1) := by decide +kernel
theorem dX11_isAt_1 : decode cX11_isAt 1 = .ok (.aload_n 0, 1) := by decide +kernel
theorem dX11_isAt_2 : decode cX11_isAt 2 = .ok (.getfield 105, 3) := by decide +kernel
theorem dX11_isAt_5 : decode cX11_isAt 5 = .ok (.if_icmp .ge 17, 3) := by decide +kernel
theorem dX11_isAt_8 : decode cX11_isAt 8 = .ok (.aload_n 0, 1) := by decide +kernel
theorem dX11_isAt_9 : decode cX11_isAt 9 = .ok (.getfield 25, 3) := by decide +kernel
theorem dX11_isAt_12 : decode cX11_isAt 12 = .ok (.iload_n 1, 1) := by decide +kernel
theorem dX11_isAt_13 : decode cX11_isAt 13 = .ok (.caload, 1) := by decide +kernel
theorem dX11_isAt_14 : decode cX11_isAt 14 = .ok (.iload_n 2, 1) := by decide +kernel
theorem dX11_isAt_15 : decode cX11_isAt 15 = .ok (.if_icmp .ne 7, 3) := by decide +kernel
theorem dX11_isAt_18 : decode cX11_isAt 18 = .ok (.iconst 1, 1) := by decide +kernel
theorem dX11_isAt_19 : decode cX11_isAt 19 = .ok (.goto 4, 3) := by decide +kernel
theorem dX11_isAt_22 : decode cX11_isAt 22 = .ok (.iconst 0, 1) := by decide +kernel
theorem dX11_isAt_23 : decode cX11_isAt 23 = .ok (.ireturn, 1) := by decide +kernel
theorem dX11_begins_0 : decode cX11_begins 0 = .ok (.aload_n 0, 1) := by decide +kernel
theorem dX11_begins_1 : decode cX11_begins 1 = .ok (.iconst 0, 1) := by decide +kernel
theorem dX11_begins_2 : decode cX11_begins 2 = .ok (.iload_n 1, 1) := by decide +kernel
theorem dX11_begins_3 : decode cX11_begins 3 = .ok (.invokevirtual 108, 3) := by decide +kernel
theorem dX11_begins_6 : decode cX11_begins 6 = .ok (.ifCond .eq 35, 3) := by decide +kernel
theorem dX11_begins_9 : decode cX11_begins 9 = .ok (.aload_n 0, 1) := by decide +kernel
theorem dX11_begins_10 : decode cX11_begins 10 = .ok (.iconst 1, 1) := by decide +kernel
theorem dX11_begins_11 : decode cX11_begins 11 = .ok (.iload_n 2, 1) := by decide +kernel
theorem dX11_begins_12 : decode cX11_begins 12 = .ok (.invokevirtual 108, 3) := by decide +kernel
theorem dX11_begins_15 : decode cX11_begins 15 = .ok (.ifCond .eq 26, 3) := by decide +kernel
theorem dX11_begins_18 : decode cX11_begins 18 = .ok (.aload_n 0, 1) := by decide +kernel
theorem dX11_begins_19 : decode cX11_begins 19 = .ok (.iconst 2, 1) := by decide +kernel
theorem dX11_begins_20 : decode cX11_begins 20 = .ok (.iload_n 3, 1) := by decide +kernel
theorem dX11_begins_21 : decode cX11_begins 21 = .ok (.invokevirtual 108, 3) := by decide +kernel
theorem dX11_begins_24 : decode cX11_begins 24 = .ok (.ifCond .eq 17, 3) := by decide +kernel
theorem dX11_begins_27 : decode cX11_begins 27 = .ok (.aload_n 0, 1) := by decide +kernel
theorem dX11_begins_28 : decode cX11_begins 28 = .ok (.iconst 3, 1) := by decide +kernel
theorem dX11_begins_29 : decode cX11_begins 29 = .ok (.iload 4, 2) := by decide +kernel
theorem dX11_begins_31 : decode cX11_begins 31 = .ok (.invokevirtual 108, 3) := by decide +kernel
theorem dX11_begins_34 : decode cX11_begins 34 = .ok (.ifCond .eq 7, 3) := by decide +kernel
theorem dX11_begins_37 : decode cX11_begins 37 = .ok (.iconst 1, 1) := by decide +kernel
theorem dX11_begins_38 : decode cX11_begins 38 = .ok (.goto 4, 3) := by decide +kernel
theorem dX11_begins_41 : decode cX11_begins 41 = .ok (.iconst 0, 1) := by decide +kernel
theorem dX11_begins_42 : decode cX11_begins 42 = .ok (.ireturn, 1) := by decide +kernel
theorem dX11_isNamed_0 : decode cX11_isNamed 0 = .ok (.iload_n 1, 1) := by decide +kernel
theorem dX11_isNamed_1 : decode cX11_isNamed 1 = .ok (.tableswitch 172 0 3 #[31, 49, 85, 154], 31) := by decide +kernel
theorem dX11_isNamed_32 : decode cX11_isNamed 32 = .ok (.aload_n 0, 1) := by decide +kernel
theorem dX11_isNamed_33 : decode cX11_isNamed 33 = .ok (.bipush 112, 2) := by decide +kernel
theorem dX11_isNamed_35 : decode cX11_isNamed 35 = .ok (.bipush 97, 2) := by decide +kernel
theorem dX11_isNamed_37 : decode cX11_isNamed 37 = .ok (.bipush 116, 2) := by decide +kernel
theorem dX11_isNamed_39 : decode cX11_isNamed 39 = .ok (.bipush 104, 2) := by decide +kernel
theorem dX11_isNamed_41 : decode cX11_isNamed 41 = .ok (.invokevirtual 112, 3) := by decide +kernel
theorem dX11_isNamed_44 : decode cX11_isNamed 44 = .ok (.istore_n 2, 1) := by decide +kernel
theorem dX11_isNamed_45 : decode cX11_isNamed 45 = .ok (.iconst 4, 1) := by decide +kernel
theorem dX11_isNamed_46 : decode cX11_isNamed 46 = .ok (.istore_n 3, 1) := by decide +kernel
theorem dX11_isNamed_47 : decode cX11_isNamed 47 = .ok (.goto 159, 3) := by decide +kernel
theorem dX11_isNamed_50 : decode cX11_isNamed 50 = .ok (.aload_n 0, 1) := by decide +kernel
theorem dX11_isNamed_51 : decode cX11_isNamed 51 = .ok (.bipush 99, 2) := by decide +kernel
theorem dX11_isNamed_53 : decode cX11_isNamed 53 = .ok (.bipush 121, 2) := by decide +kernel
theorem dX11_isNamed_55 : decode cX11_isNamed 55 = .ok (.bipush 99, 2) := by decide +kernel
theorem dX11_isNamed_57 : decode cX11_isNamed 57 = .ok (.bipush 108, 2) := by decide +kernel
theorem dX11_isNamed_59 : decode cX11_isNamed 59 = .ok (.invokevirtual 112, 3) := by decide +kernel
theorem dX11_isNamed_62 : decode cX11_isNamed 62 = .ok (.ifCond .eq 17, 3) := by decide +kernel
theorem dX11_isNamed_65 : decode cX11_isNamed 65 = .ok (.aload_n 0, 1) := by decide +kernel
theorem dX11_isNamed_66 : decode cX11_isNamed 66 = .ok (.iconst 4, 1) := by decide +kernel
theorem dX11_isNamed_67 : decode cX11_isNamed 67 = .ok (.bipush 101, 2) := by decide +kernel
theorem dX11_isNamed_69 : decode cX11_isNamed 69 = .ok (.invokevirtual 108, 3) := by decide +kernel
theorem dX11_isNamed_72 : decode cX11_isNamed 72 = .ok (.ifCond .eq 7, 3) := by decide +kernel
theorem dX11_isNamed_75 : decode cX11_isNamed 75 = .ok (.iconst 1, 1) := by decide +kernel
theorem dX11_isNamed_76 : decode cX11_isNamed 76 = .ok (.goto 4, 3) := by decide +kernel
theorem dX11_isNamed_79 : decode cX11_isNamed 79 = .ok (.iconst 0, 1) := by decide +kernel
theorem dX11_isNamed_80 : decode cX11_isNamed 80 = .ok (.istore_n 2, 1) := by decide +kernel
theorem dX11_isNamed_81 : decode cX11_isNamed 81 = .ok (.iconst 5, 1) := by decide +kernel
theorem dX11_isNamed_82 : decode cX11_isNamed 82 = .ok (.istore_n 3, 1) := by decide +kernel
theorem dX11_isNamed_83 : decode cX11_isNamed 83 = .ok (.goto 123, 3) := by decide +kernel
theorem dX11_isNamed_86 : decode cX11_isNamed 86 = .ok (.aload_n 0, 1) := by decide +kernel
theorem dX11_isNamed_87 : decode cX11_isNamed 87 = .ok (.bipush 99, 2) := by decide +kernel
theorem dX11_isNamed_89 : decode cX11_isNamed 89 = .ok (.bipush 111, 2) := by decide +kernel
theorem dX11_isNamed_91 : decode cX11_isNamed 91 = .ok (.bipush 109, 2) := by decide +kernel
theorem dX11_isNamed_93 : decode cX11_isNamed 93 = .ok (.bipush 112, 2) := by decide +kernel
theorem dX11_isNamed_95 : decode cX11_isNamed 95 = .ok (.invokevirtual 112, 3) := by decide +kernel
theorem dX11_isNamed_98 : decode cX11_isNamed 98 = .ok (.ifCond .eq 49, 3) := by decide +kernel
theorem dX11_isNamed_101 : decode cX11_isNamed 101 = .ok (.aload_n 0, 1) := by decide +kernel
theorem dX11_isNamed_102 : decode cX11_isNamed 102 = .ok (.iconst 4, 1) := by decide +kernel
theorem dX11_isNamed_103 : decode cX11_isNamed 103 = .ok (.bipush 108, 2) := by decide +kernel
theorem dX11_isNamed_105 : decode cX11_isNamed 105 = .ok (.invokevirtual 108, 3) := by decide +kernel
theorem dX11_isNamed_108 : decode cX11_isNamed 108 = .ok (.ifCond .eq 39, 3) := by decide +kernel
theorem dX11_isNamed_111 : decode cX11_isNamed 111 = .ok (.aload_n 0, 1) := by decide +kernel
theorem dX11_isNamed_112 : decode cX11_isNamed 112 = .ok (.iconst 5, 1) := by decide +kernel
theorem dX11_isNamed_113 : decode cX11_isNamed 113 = .ok (.bipush 101, 2) := by decide +kernel
theorem dX11_isNamed_115 : decode cX11_isNamed 115 = .ok (.invokevirtual 108, 3) := by decide +kernel
theorem dX11_isNamed_118 : decode cX11_isNamed 118 = .ok (.ifCond .eq 29, 3) := by decide +kernel
theorem dX11_isNamed_121 : decode cX11_isNamed 121 = .ok (.aload_n 0, 1) := by decide +kernel
theorem dX11_isNamed_122 : decode cX11_isNamed 122 = .ok (.bipush 6, 2) := by decide +kernel
theorem dX11_isNamed_124 : decode cX11_isNamed 124 = .ok (.bipush 116, 2) := by decide +kernel
theorem dX11_isNamed_126 : decode cX11_isNamed 126 = .ok (.invokevirtual 108, 3) := by decide +kernel
theorem dX11_isNamed_129 : decode cX11_isNamed 129 = .ok (.ifCond .eq 18, 3) := by decide +kernel
theorem dX11_isNamed_132 : decode cX11_isNamed 132 = .ok (.aload_n 0, 1) := by decide +kernel
theorem dX11_isNamed_133 : decode cX11_isNamed 133 = .ok (.bipush 7, 2) := by decide +kernel
theorem dX11_isNamed_135 : decode cX11_isNamed 135 = .ok (.bipush 101, 2) := by decide +kernel
theorem dX11_isNamed_137 : decode cX11_isNamed 137 = .ok (.invokevirtual 108, 3) := by decide +kernel
theorem dX11_isNamed_140 : decode cX11_isNamed 140 = .ok (.ifCond .eq 7, 3) := by decide +kernel
theorem dX11_isNamed_143 : decode cX11_isNamed 143 = .ok (.iconst 1, 1) := by decide +kernel
theorem dX11_isNamed_144 : decode cX11_isNamed 144 = .ok (.goto 4, 3) := by decide +kernel
theorem dX11_isNamed_147 : decode cX11_isNamed 147 = .ok (.iconst 0, 1) := by decide +kernel
theorem dX11_isNamed_148 : decode cX11_isNamed 148 = .ok (.istore_n 2, 1) := by decide +kernel
theorem dX11_isNamed_149 : decode cX11_isNamed 149 = .ok (.bipush 8, 2) := by decide +kernel
theorem dX11_isNamed_151 : decode cX11_isNamed 151 = .ok (.istore_n 3, 1) := by decide +kernel
theorem dX11_isNamed_152 : decode cX11_isNamed 152 = .ok (.goto 54, 3) := by decide +kernel
theorem dX11_isNamed_155 : decode cX11_isNamed 155 = .ok (.aload_n 0, 1) := by decide +kernel
theorem dX11_isNamed_156 : decode cX11_isNamed 156 = .ok (.bipush 115, 2) := by decide +kernel
theorem dX11_isNamed_158 : decode cX11_isNamed 158 = .ok (.bipush 116, 2) := by decide +kernel
theorem dX11_isNamed_160 : decode cX11_isNamed 160 = .ok (.bipush 97, 2) := by decide +kernel
theorem dX11_isNamed_162 : decode cX11_isNamed 162 = .ok (.bipush 114, 2) := by decide +kernel
theorem dX11_isNamed_164 : decode cX11_isNamed 164 = .ok (.invokevirtual 112, 3) := by decide +kernel
theorem dX11_isNamed_167 : decode cX11_isNamed 167 = .ok (.istore_n 2, 1) := by decide +kernel
theorem dX11_isNamed_168 : decode cX11_isNamed 168 = .ok (.iconst 4, 1) := by decide +kernel
theorem dX11_isNamed_169 : decode cX11_isNamed 169 = .ok (.istore_n 3, 1) := by decide +kernel
theorem dX11_isNamed_170 : decode cX11_isNamed 170 = .ok (.goto 36, 3) := by decide +kernel
theorem dX11_isNamed_173 : decode cX11_isNamed 173 = .ok (.aload_n 0, 1) := by decide +kernel
theorem dX11_isNamed_174 : decode cX11_isNamed 174 = .ok (.bipush 119, 2) := by decide +kernel
theorem dX11_isNamed_176 : decode cX11_isNamed 176 = .ok (.bipush 104, 2) := by decide +kernel
theorem dX11_isNamed_178 : decode cX11_isNamed 178 = .ok (.bipush 101, 2) := by decide +kernel
theorem dX11_isNamed_180 : decode cX11_isNamed 180 = .ok (.bipush 101, 2) := by decide +kernel
theorem dX11_isNamed_182 : decode cX11_isNamed 182 = .ok (.invokevirtual 112, 3) := by decide +kernel
theorem dX11_isNamed_185 : decode cX11_isNamed 185 = .ok (.ifCond .eq 17, 3) := by decide +kernel
theorem dX11_isNamed_188 : decode cX11_isNamed 188 = .ok (.aload_n 0, 1) := by decide +kernel
theorem dX11_isNamed_189 : decode cX11_isNamed 189 = .ok (.iconst 4, 1) := by decide +kernel
theorem dX11_isNamed_190 : decode cX11_isNamed 190 = .ok (.bipush 108, 2) := by decide +kernel
theorem dX11_isNamed_192 : decode cX11_isNamed 192 = .ok (.invokevirtual 108, 3) := by decide +kernel
theorem dX11_isNamed_195 : decode cX11_isNamed 195 = .ok (.ifCond .eq 7, 3) := by decide +kernel
theorem dX11_isNamed_198 : decode cX11_isNamed 198 = .ok (.iconst 1, 1) := by decide +kernel
theorem dX11_isNamed_199 : decode cX11_isNamed 199 = .ok (.goto 4, 3) := by decide +kernel
theorem dX11_isNamed_202 : decode cX11_isNamed 202 = .ok (.iconst 0, 1) := by decide +kernel
theorem dX11_isNamed_203 : decode cX11_isNamed 203 = .ok (.istore_n 2, 1) := by decide +kernel
theorem dX11_isNamed_204 : decode cX11_isNamed 204 = .ok (.iconst 5, 1) := by decide +kernel
theorem dX11_isNamed_205 : decode cX11_isNamed 205 = .ok (.istore_n 3, 1) := by decide +kernel
theorem dX11_isNamed_206 : decode cX11_isNamed 206 = .ok (.iload_n 1, 1) := by decide +kernel
theorem dX11_isNamed_207 : decode cX11_isNamed 207 = .ok (.iconst 1, 1) := by decide +kernel
theorem dX11_isNamed_208 : decode cX11_isNamed 208 = .ok (.if_icmp .ne 7, 3) := by decide +kernel
theorem dX11_isNamed_211 : decode cX11_isNamed 211 = .ok (.iconst 3, 1) := by decide +kernel
theorem dX11_isNamed_212 : decode cX11_isNamed 212 = .ok (.goto 13, 3) := by decide +kernel
theorem dX11_isNamed_215 : decode cX11_isNamed 215 = .ok (.iload_n 1, 1) := by decide +kernel
theorem dX11_isNamed_216 : decode cX11_isNamed 216 = .ok (.iconst 4, 1) := by decide +kernel
theorem dX11_isNamed_217 : decode cX11_isNamed 217 = .ok (.if_icmp .ne 7, 3) := by decide +kernel
theorem dX11_isNamed_220 : decode cX11_isNamed 220 = .ok (.iconst 4, 1) := by decide +kernel
theorem dX11_isNamed_221 : decode cX11_isNamed 221 = .ok (.goto 4, 3) := by decide +kernel
theorem dX11_isNamed_224 : decode cX11_isNamed 224 = .ok (.iconst 2, 1) := by decide +kernel
theorem dX11_isNamed_225 : decode cX11_isNamed 225 = .ok (.istore 4, 2) := by decide +kernel
theorem dX11_isNamed_227 : decode cX11_isNamed 227 = .ok (.iload_n 2, 1) := by decide +kernel
theorem dX11_isNamed_228 : decode cX11_isNamed 228 = .ok (.ifCond .eq 46, 3) := by decide +kernel
theorem dX11_isNamed_231 : decode cX11_isNamed 231 = .ok (.aload_n 0, 1) := by decide +kernel
theorem dX11_isNamed_232 : decode cX11_isNamed 232 = .ok (.getfield 105, 3) := by decide +kernel
theorem dX11_isNamed_235 : decode cX11_isNamed 235 = .ok (.iload_n 3, 1) := by decide +kernel
theorem dX11_isNamed_236 : decode cX11_isNamed 236 = .ok (.iconst 1, 1) := by decide +kernel
theorem dX11_isNamed_237 : decode cX11_isNamed 237 = .ok (.iadd, 1) := by decide +kernel
theorem dX11_isNamed_238 : decode cX11_isNamed 238 = .ok (.if_icmp .ne 36, 3) := by decide +kernel
theorem dX11_isNamed_241 : decode cX11_isNamed 241 = .ok (.aload_n 0, 1) := by decide +kernel
theorem dX11_isNamed_242 : decode cX11_isNamed 242 = .ok (.getfield 25, 3) := by decide +kernel
theorem dX11_isNamed_245 : decode cX11_isNamed 245 = .ok (.iload_n 3, 1) := by decide +kernel
theorem dX11_isNamed_246 : decode cX11_isNamed 246 = .ok (.caload, 1) := by decide +kernel
theorem dX11_isNamed_247 : decode cX11_isNamed 247 = .ok (.bipush 48, 2) := by decide +kernel
theorem dX11_isNamed_249 : decode cX11_isNamed 249 = .ok (.isub, 1) := by decide +kernel
theorem dX11_isNamed_250 : decode cX11_isNamed 250 = .ok (.iload 4, 2) := by decide +kernel
theorem dX11_isNamed_252 : decode cX11_isNamed 252 = .ok (.iload_n 1, 1) := by decide +kernel
theorem dX11_isNamed_253 : decode cX11_isNamed 253 = .ok (.iconst 2, 1) := by decide +kernel
theorem dX11_isNamed_254 : decode cX11_isNamed 254 = .ok (.if_icmp .ne 8, 3) := by decide +kernel
theorem dX11_isNamed_257 : decode cX11_isNamed 257 = .ok (.bipush 6, 2) := by decide +kernel
theorem dX11_isNamed_259 : decode cX11_isNamed 259 = .ok (.goto 5, 3) := by decide +kernel
theorem dX11_isNamed_262 : decode cX11_isNamed 262 = .ok (.bipush 8, 2) := by decide +kernel
theorem dX11_isNamed_264 : decode cX11_isNamed 264 = .ok (.invokestatic 97, 3) := by decide +kernel
theorem dX11_isNamed_267 : decode cX11_isNamed 267 = .ok (.ifCond .eq 7, 3) := by decide +kernel
theorem dX11_isNamed_270 : decode cX11_isNamed 270 = .ok (.iconst 1, 1) := by decide +kernel
theorem dX11_isNamed_271 : decode cX11_isNamed 271 = .ok (.goto 4, 3) := by decide +kernel
theorem dX11_isNamed_274 : decode cX11_isNamed 274 = .ok (.iconst 0, 1) := by decide +kernel
theorem dX11_isNamed_275 : decode cX11_isNamed 275 = .ok (.ireturn, 1) := by decide +kernel
theorem dX11_readGraph_0 : decode cX11_readGraph 0 = .ok (.iconst 0, 1) := by decide +kernel
theorem dX11_readGraph_1 : decode cX11_readGraph 1 = .ok (.istore_n 1, 1) := by decide +kernel
theorem dX11_readGraph_2 : decode cX11_readGraph 2 = .ok (.iload_n 1, 1) := by decide +kernel
theorem dX11_readGraph_3 : decode cX11_readGraph 3 = .ok (.iconst 5, 1) := by decide +kernel
theorem dX11_readGraph_4 : decode cX11_readGraph 4 = .ok (.if_icmp .ge 17, 3) := by decide +kernel
theorem dX11_readGraph_7 : decode cX11_readGraph 7 = .ok (.aload_n 0, 1) := by decide +kernel
theorem dX11_readGraph_8 : decode cX11_readGraph 8 = .ok (.iload_n 1, 1) := by decide +kernel
theorem dX11_readGraph_9 : decode cX11_readGraph 9 = .ok (.invokevirtual 116, 3) := by decide +kernel
theorem dX11_readGraph_12 : decode cX11_readGraph 12 = .ok (.ifCond .ne 9, 3) := by decide +kernel
theorem dX11_readGraph_15 : decode cX11_readGraph 15 = .ok (.iinc 1 1, 3) := by decide +kernel
theorem dX11_readGraph_18 : decode cX11_readGraph 18 = .ok (.goto (-16), 3) := by decide +kernel
theorem dX11_readGraph_21 : decode cX11_readGraph 21 = .ok (.iload_n 1, 1) := by decide +kernel
theorem dX11_readGraph_22 : decode cX11_readGraph 22 = .ok (.iconst 5, 1) := by decide +kernel
theorem dX11_readGraph_23 : decode cX11_readGraph 23 = .ok (.if_icmp .ne 7, 3) := by decide +kernel
theorem dX11_readGraph_26 : decode cX11_readGraph 26 = .ok (.sipush (-10006), 3) := by decide +kernel
theorem dX11_readGraph_29 : decode cX11_readGraph 29 = .ok (.ireturn, 1) := by decide +kernel
theorem dX11_readGraph_30 : decode cX11_readGraph 30 = .ok (.aload_n 0, 1) := by decide +kernel
theorem dX11_readGraph_31 : decode cX11_readGraph 31 = .ok (.getfield 25, 3) := by decide +kernel
theorem dX11_readGraph_34 : decode cX11_readGraph 34 = .ok (.aload_n 0, 1) := by decide +kernel
theorem dX11_readGraph_35 : decode cX11_readGraph 35 = .ok (.getfield 105, 3) := by decide +kernel
theorem dX11_readGraph_38 : decode cX11_readGraph 38 = .ok (.iconst 1, 1) := by decide +kernel
theorem dX11_readGraph_39 : decode cX11_readGraph 39 = .ok (.isub, 1) := by decide +kernel
theorem dX11_readGraph_40 : decode cX11_readGraph 40 = .ok (.caload, 1) := by decide +kernel
theorem dX11_readGraph_41 : decode cX11_readGraph 41 = .ok (.bipush 48, 2) := by decide +kernel
theorem dX11_readGraph_43 : decode cX11_readGraph 43 = .ok (.isub, 1) := by decide +kernel
theorem dX11_readGraph_44 : decode cX11_readGraph 44 = .ok (.istore_n 2, 1) := by decide +kernel
theorem dX11_readGraph_45 : decode cX11_readGraph 45 = .ok (.aload_n 0, 1) := by decide +kernel
theorem dX11_readGraph_46 : decode cX11_readGraph 46 = .ok (.iload_n 2, 1) := by decide +kernel
theorem dX11_readGraph_47 : decode cX11_readGraph 47 = .ok (.invokevirtual 67, 3) := by decide +kernel
theorem dX11_readGraph_50 : decode cX11_readGraph 50 = .ok (.iconst 0, 1) := by decide +kernel
theorem dX11_readGraph_51 : decode cX11_readGraph 51 = .ok (.istore_n 3, 1) := by decide +kernel
theorem dX11_readGraph_52 : decode cX11_readGraph 52 = .ok (.iload_n 3, 1) := by decide +kernel
theorem dX11_readGraph_53 : decode cX11_readGraph 53 = .ok (.iload_n 2, 1) := by decide +kernel
theorem dX11_readGraph_54 : decode cX11_readGraph 54 = .ok (.if_icmp .ge 38, 3) := by decide +kernel
theorem dX11_readGraph_57 : decode cX11_readGraph 57 = .ok (.iload_n 1, 1) := by decide +kernel
theorem dX11_readGraph_58 : decode cX11_readGraph 58 = .ok (.iconst 2, 1) := by decide +kernel
theorem dX11_readGraph_59 : decode cX11_readGraph 59 = .ok (.if_icmp .ne 33, 3) := by decide +kernel
theorem dX11_readGraph_62 : decode cX11_readGraph 62 = .ok (.iload_n 3, 1) := by decide +kernel
theorem dX11_readGraph_63 : decode cX11_readGraph 63 = .ok (.iconst 1, 1) := by decide +kernel
theorem dX11_readGraph_64 : decode cX11_readGraph 64 = .ok (.iadd, 1) := by decide +kernel
theorem dX11_readGraph_65 : decode cX11_readGraph 65 = .ok (.istore 4, 2) := by decide +kernel
theorem dX11_readGraph_67 : decode cX11_readGraph 67 = .ok (.iload 4, 2) := by decide +kernel
theorem dX11_readGraph_69 : decode cX11_readGraph 69 = .ok (.iload_n 2, 1) := by decide +kernel
theorem dX11_readGraph_70 : decode cX11_readGraph 70 = .ok (.if_icmp .ge 16, 3) := by decide +kernel
theorem dX11_readGraph_73 : decode cX11_readGraph 73 = .ok (.aload_n 0, 1) := by decide +kernel
theorem dX11_readGraph_74 : decode cX11_readGraph 74 = .ok (.iload_n 3, 1) := by decide +kernel
theorem dX11_readGraph_75 : decode cX11_readGraph 75 = .ok (.iload 4, 2) := by decide +kernel
theorem dX11_readGraph_77 : decode cX11_readGraph 77 = .ok (.invokevirtual 71, 3) := by decide +kernel
theorem dX11_readGraph_80 : decode cX11_readGraph 80 = .ok (.iinc 4 1, 3) := by decide +kernel
theorem dX11_readGraph_83 : decode cX11_readGraph 83 = .ok (.goto (-16), 3) := by decide +kernel
theorem dX11_readGraph_86 : decode cX11_readGraph 86 = .ok (.iinc 3 1, 3) := by decide +kernel
theorem dX11_readGraph_89 : decode cX11_readGraph 89 = .ok (.goto (-37), 3) := by decide +kernel
theorem dX11_readGraph_92 : decode cX11_readGraph 92 = .ok (.iconst 1, 1) := by decide +kernel
theorem dX11_readGraph_93 : decode cX11_readGraph 93 = .ok (.istore_n 3, 1) := by decide +kernel
theorem dX11_readGraph_94 : decode cX11_readGraph 94 = .ok (.iload_n 3, 1) := by decide +kernel
theorem dX11_readGraph_95 : decode cX11_readGraph 95 = .ok (.iload_n 2, 1) := by decide +kernel
theorem dX11_readGraph_96 : decode cX11_readGraph 96 = .ok (.if_icmp .ge 31, 3) := by decide +kernel
theorem dX11_readGraph_99 : decode cX11_readGraph 99 = .ok (.iload_n 1, 1) := by decide +kernel
theorem dX11_readGraph_100 : decode cX11_readGraph 100 = .ok (.iconst 2, 1) := by decide +kernel
theorem dX11_readGraph_101 : decode cX11_readGraph 101 = .ok (.if_icmp .eq 26, 3) := by decide +kernel
theorem dX11_readGraph_104 : decode cX11_readGraph 104 = .ok (.aload_n 0, 1) := by decide +kernel
theorem dX11_readGraph_105 : decode cX11_readGraph 105 = .ok (.iload_n 1, 1) := by decide +kernel
theorem dX11_readGraph_106 : decode cX11_readGraph 106 = .ok (.iconst 2, 1) := by decide +kernel
theorem dX11_readGraph_107 : decode cX11_readGraph 107 = .ok (.if_icmp .ge 9, 3) := by decide +kernel
theorem dX11_readGraph_110 : decode cX11_readGraph 110 = .ok (.iload_n 3, 1) := by decide +kernel
theorem dX11_readGraph_111 : decode cX11_readGraph 111 = .ok (.iconst 1, 1) := by decide +kernel
theorem dX11_readGraph_112 : decode cX11_readGraph 112 = .ok (.isub, 1) := by decide +kernel
theorem dX11_readGraph_113 : decode cX11_readGraph 113 = .ok (.goto 4, 3) := by decide +kernel
theorem dX11_readGraph_116 : decode cX11_readGraph 116 = .ok (.iconst 0, 1) := by decide +kernel
theorem dX11_readGraph_117 : decode cX11_readGraph 117 = .ok (.iload_n 3, 1) := by decide +kernel
theorem dX11_readGraph_118 : decode cX11_readGraph 118 = .ok (.invokevirtual 71, 3) := by decide +kernel
theorem dX11_readGraph_121 : decode cX11_readGraph 121 = .ok (.iinc 3 1, 3) := by decide +kernel
theorem dX11_readGraph_124 : decode cX11_readGraph 124 = .ok (.goto (-30), 3) := by decide +kernel
theorem dX11_readGraph_127 : decode cX11_readGraph 127 = .ok (.iload_n 1, 1) := by decide +kernel
theorem dX11_readGraph_128 : decode cX11_readGraph 128 = .ok (.iconst 1, 1) := by decide +kernel
theorem dX11_readGraph_129 : decode cX11_readGraph 129 = .ok (.if_icmp .ne 11, 3) := by decide +kernel
theorem dX11_readGraph_132 : decode cX11_readGraph 132 = .ok (.aload_n 0, 1) := by decide +kernel
theorem dX11_readGraph_133 : decode cX11_readGraph 133 = .ok (.iload_n 2, 1) := by decide +kernel
theorem dX11_readGraph_134 : decode cX11_readGraph 134 = .ok (.iconst 1, 1) := by decide +kernel
theorem dX11_readGraph_135 : decode cX11_readGraph 135 = .ok (.isub, 1) := by decide +kernel
theorem dX11_readGraph_136 : decode cX11_readGraph 136 = .ok (.iconst 0, 1) := by decide +kernel
theorem dX11_readGraph_137 : decode cX11_readGraph 137 = .ok (.invokevirtual 71, 3) := by decide +kernel
theorem dX11_readGraph_140 : decode cX11_readGraph 140 = .ok (.iconst 1, 1) := by decide +kernel
theorem dX11_readGraph_141 : decode cX11_readGraph 141 = .ok (.istore_n 3, 1) := by decide +kernel
theorem dX11_readGraph_142 : decode cX11_readGraph 142 = .ok (.iload_n 3, 1) := by decide +kernel
theorem dX11_readGraph_143 : decode cX11_readGraph 143 = .ok (.iload_n 2, 1) := by decide +kernel
theorem dX11_readGraph_144 : decode cX11_readGraph 144 = .ok (.if_icmp .ge 33, 3) := by decide +kernel
theorem dX11_readGraph_147 : decode cX11_readGraph 147 = .ok (.iload_n 1, 1) := by decide +kernel
theorem dX11_readGraph_148 : decode cX11_readGraph 148 = .ok (.iconst 4, 1) := by decide +kernel
theorem dX11_readGraph_149 : decode cX11_readGraph 149 = .ok (.if_icmp .ne 28, 3) := by decide +kernel
theorem dX11_readGraph_152 : decode cX11_readGraph 152 = .ok (.aload_n 0, 1) := by decide +kernel
theorem dX11_readGraph_153 : decode cX11_readGraph 153 = .ok (.iload_n 3, 1) := by decide +kernel
theorem dX11_readGraph_154 : decode cX11_readGraph 154 = .ok (.iload_n 3, 1) := by decide +kernel
theorem dX11_readGraph_155 : decode cX11_readGraph 155 = .ok (.iconst 1, 1) := by decide +kernel
theorem dX11_readGraph_156 : decode cX11_readGraph 156 = .ok (.iadd, 1) := by decide +kernel
theorem dX11_readGraph_157 : decode cX11_readGraph 157 = .ok (.iload_n 2, 1) := by decide +kernel
theorem dX11_readGraph_158 : decode cX11_readGraph 158 = .ok (.if_icmp .ge 9, 3) := by decide +kernel
theorem dX11_readGraph_161 : decode cX11_readGraph 161 = .ok (.iload_n 3, 1) := by decide +kernel
theorem dX11_readGraph_162 : decode cX11_readGraph 162 = .ok (.iconst 1, 1) := by decide +kernel
theorem dX11_readGraph_163 : decode cX11_readGraph 163 = .ok (.iadd, 1) := by decide +kernel
theorem dX11_readGraph_164 : decode cX11_readGraph 164 = .ok (.goto 4, 3) := by decide +kernel
theorem dX11_readGraph_167 : decode cX11_readGraph 167 = .ok (.iconst 1, 1) := by decide +kernel
theorem dX11_readGraph_168 : decode cX11_readGraph 168 = .ok (.invokevirtual 71, 3) := by decide +kernel
theorem dX11_readGraph_171 : decode cX11_readGraph 171 = .ok (.iinc 3 1, 3) := by decide +kernel
theorem dX11_readGraph_174 : decode cX11_readGraph 174 = .ok (.goto (-32), 3) := by decide +kernel
theorem dX11_readGraph_177 : decode cX11_readGraph 177 = .ok (.aload_n 0, 1) := by decide +kernel
theorem dX11_readGraph_178 : decode cX11_readGraph 178 = .ok (.getfield 81, 3) := by decide +kernel
theorem dX11_readGraph_181 : decode cX11_readGraph 181 = .ok (.ireturn, 1) := by decide +kernel
theorem dX11_isConnected_0 : decode cX11_isConnected 0 = .ok (.iconst 1, 1) := by decide +kernel
theorem dX11_isConnected_1 : decode cX11_isConnected 1 = .ok (.aload_n 0, 1) := by decide +kernel
theorem dX11_isConnected_2 : decode cX11_isConnected 2 = .ok (.getfield 84, 3) := by decide +kernel
theorem dX11_isConnected_5 : decode cX11_isConnected 5 = .ok (.ishl, 1) := by decide +kernel
theorem dX11_isConnected_6 : decode cX11_isConnected 6 = .ok (.istore_n 1, 1) := by decide +kernel
theorem dX11_isConnected_7 : decode cX11_isConnected 7 = .ok (.iconst 1, 1) := by decide +kernel
theorem dX11_isConnected_8 : decode cX11_isConnected 8 = .ok (.istore_n 2, 1) := by decide +kernel
theorem dX11_isConnected_9 : decode cX11_isConnected 9 = .ok (.iload_n 2, 1) := by decide +kernel
theorem dX11_isConnected_10 : decode cX11_isConnected 10 = .ok (.ifCond .eq 117, 3) := by decide +kernel
theorem dX11_isConnected_13 : decode cX11_isConnected 13 = .ok (.iconst 0, 1) := by decide +kernel
theorem dX11_isConnected_14 : decode cX11_isConnected 14 = .ok (.istore_n 2, 1) := by decide +kernel
theorem dX11_isConnected_15 : decode cX11_isConnected 15 = .ok (.iconst 0, 1) := by decide +kernel
theorem dX11_isConnected_16 : decode cX11_isConnected 16 = .ok (.istore_n 3, 1) := by decide +kernel
theorem dX11_isConnected_17 : decode cX11_isConnected 17 = .ok (.iload_n 3, 1) := by decide +kernel
theorem dX11_isConnected_18 : decode cX11_isConnected 18 = .ok (.aload_n 0, 1) := by decide +kernel
theorem dX11_isConnected_19 : decode cX11_isConnected 19 = .ok (.getfield 81, 3) := by decide +kernel
theorem dX11_isConnected_22 : decode cX11_isConnected 22 = .ok (.if_icmp .ge 102, 3) := by decide +kernel
theorem dX11_isConnected_25 : decode cX11_isConnected 25 = .ok (.iload_n 1, 1) := by decide +kernel
theorem dX11_isConnected_26 : decode cX11_isConnected 26 = .ok (.aload_n 0, 1) := by decide +kernel
theorem dX11_isConnected_27 : decode cX11_isConnected 27 = .ok (.getfield 7, 3) := by decide +kernel
theorem dX11_isConnected_30 : decode cX11_isConnected 30 = .ok (.iload_n 3, 1) := by decide +kernel
theorem dX11_isConnected_31 : decode cX11_isConnected 31 = .ok (.iaload, 1) := by decide +kernel
theorem dX11_isConnected_32 : decode cX11_isConnected 32 = .ok (.ishr, 1) := by decide +kernel
theorem dX11_isConnected_33 : decode cX11_isConnected 33 = .ok (.iconst 1, 1) := by decide +kernel
theorem dX11_isConnected_34 : decode cX11_isConnected 34 = .ok (.iand, 1) := by decide +kernel
theorem dX11_isConnected_35 : decode cX11_isConnected 35 = .ok (.iconst 1, 1) := by decide +kernel
theorem dX11_isConnected_36 : decode cX11_isConnected 36 = .ok (.if_icmp .ne 7, 3) := by decide +kernel
theorem dX11_isConnected_39 : decode cX11_isConnected 39 = .ok (.iconst 1, 1) := by decide +kernel
theorem dX11_isConnected_40 : decode cX11_isConnected 40 = .ok (.goto 4, 3) := by decide +kernel
theorem dX11_isConnected_43 : decode cX11_isConnected 43 = .ok (.iconst 0, 1) := by decide +kernel
theorem dX11_isConnected_44 : decode cX11_isConnected 44 = .ok (.istore 4, 2) := by decide +kernel
theorem dX11_isConnected_46 : decode cX11_isConnected 46 = .ok (.iload_n 1, 1) := by decide +kernel
theorem dX11_isConnected_47 : decode cX11_isConnected 47 = .ok (.aload_n 0, 1) := by decide +kernel
theorem dX11_isConnected_48 : decode cX11_isConnected 48 = .ok (.getfield 13, 3) := by decide +kernel
theorem dX11_isConnected_51 : decode cX11_isConnected 51 = .ok (.iload_n 3, 1) := by decide +kernel
theorem dX11_isConnected_52 : decode cX11_isConnected 52 = .ok (.iaload, 1) := by decide +kernel
theorem dX11_isConnected_53 : decode cX11_isConnected 53 = .ok (.ishr, 1) := by decide +kernel
theorem dX11_isConnected_54 : decode cX11_isConnected 54 = .ok (.iconst 1, 1) := by decide +kernel
theorem dX11_isConnected_55 : decode cX11_isConnected 55 = .ok (.iand, 1) := by decide +kernel
theorem dX11_isConnected_56 : decode cX11_isConnected 56 = .ok (.iconst 1, 1) := by decide +kernel
theorem dX11_isConnected_57 : decode cX11_isConnected 57 = .ok (.if_icmp .ne 7, 3) := by decide +kernel
theorem dX11_isConnected_60 : decode cX11_isConnected 60 = .ok (.iconst 1, 1) := by decide +kernel
theorem dX11_isConnected_61 : decode cX11_isConnected 61 = .ok (.goto 4, 3) := by decide +kernel
theorem dX11_isConnected_64 : decode cX11_isConnected 64 = .ok (.iconst 0, 1) := by decide +kernel
theorem dX11_isConnected_65 : decode cX11_isConnected 65 = .ok (.istore 5, 2) := by decide +kernel
theorem dX11_isConnected_67 : decode cX11_isConnected 67 = .ok (.iload_n 2, 1) := by decide +kernel
theorem dX11_isConnected_68 : decode cX11_isConnected 68 = .ok (.ifCond .ne 10, 3) := by decide +kernel
theorem dX11_isConnected_71 : decode cX11_isConnected 71 = .ok (.iload 4, 2) := by decide +kernel
theorem dX11_isConnected_73 : decode cX11_isConnected 73 = .ok (.iload 5, 2) := by decide +kernel
theorem dX11_isConnected_75 : decode cX11_isConnected 75 = .ok (.if_icmp .eq 7, 3) := by decide +kernel
theorem dX11_isConnected_78 : decode cX11_isConnected 78 = .ok (.iconst 1, 1) := by decide +kernel
theorem dX11_isConnected_79 : decode cX11_isConnected 79 = .ok (.goto 4, 3) := by decide +kernel
theorem dX11_isConnected_82 : decode cX11_isConnected 82 = .ok (.iconst 0, 1) := by decide +kernel
theorem dX11_isConnected_83 : decode cX11_isConnected 83 = .ok (.istore_n 2, 1) := by decide +kernel
theorem dX11_isConnected_84 : decode cX11_isConnected 84 = .ok (.iload_n 1, 1) := by decide +kernel
theorem dX11_isConnected_85 : decode cX11_isConnected 85 = .ok (.iload 4, 2) := by decide +kernel
theorem dX11_isConnected_87 : decode cX11_isConnected 87 = .ok (.ifCond .ne 8, 3) := by decide +kernel
theorem dX11_isConnected_90 : decode cX11_isConnected 90 = .ok (.iload 5, 2) := by decide +kernel
theorem dX11_isConnected_92 : decode cX11_isConnected 92 = .ok (.ifCond .eq 23, 3) := by decide +kernel
theorem dX11_isConnected_95 : decode cX11_isConnected 95 = .ok (.iconst 1, 1) := by decide +kernel
theorem dX11_isConnected_96 : decode cX11_isConnected 96 = .ok (.aload_n 0, 1) := by decide +kernel
theorem dX11_isConnected_97 : decode cX11_isConnected 97 = .ok (.getfield 7, 3) := by decide +kernel
theorem dX11_isConnected_100 : decode cX11_isConnected 100 = .ok (.iload_n 3, 1) := by decide +kernel
theorem dX11_isConnected_101 : decode cX11_isConnected 101 = .ok (.iaload, 1) := by decide +kernel
theorem dX11_isConnected_102 : decode cX11_isConnected 102 = .ok (.ishl, 1) := by decide +kernel
theorem dX11_isConnected_103 : decode cX11_isConnected 103 = .ok (.iconst 1, 1) := by decide +kernel
theorem dX11_isConnected_104 : decode cX11_isConnected 104 = .ok (.aload_n 0, 1) := by decide +kernel
theorem dX11_isConnected_105 : decode cX11_isConnected 105 = .ok (.getfield 13, 3) := by decide +kernel
theorem dX11_isConnected_108 : decode cX11_isConnected 108 = .ok (.iload_n 3, 1) := by decide +kernel
theorem dX11_isConnected_109 : decode cX11_isConnected 109 = .ok (.iaload, 1) := by decide +kernel
theorem dX11_isConnected_110 : decode cX11_isConnected 110 = .ok (.ishl, 1) := by decide +kernel
theorem dX11_isConnected_111 : decode cX11_isConnected 111 = .ok (.ior, 1) := by decide +kernel
theorem dX11_isConnected_112 : decode cX11_isConnected 112 = .ok (.goto 4, 3) := by decide +kernel
theorem dX11_isConnected_115 : decode cX11_isConnected 115 = .ok (.iconst 0, 1) := by decide +kernel
theorem dX11_isConnected_116 : decode cX11_isConnected 116 = .ok (.ior, 1) := by decide +kernel
theorem dX11_isConnected_117 : decode cX11_isConnected 117 = .ok (.istore_n 1, 1) := by decide +kernel
theorem dX11_isConnected_118 : decode cX11_isConnected 118 = .ok (.iinc 3 1, 3) := by decide +kernel
theorem dX11_isConnected_121 : decode cX11_isConnected 121 = .ok (.goto (-104), 3) := by decide +kernel
theorem dX11_isConnected_124 : decode cX11_isConnected 124 = .ok (.goto (-115), 3) := by decide +kernel
theorem dX11_isConnected_127 : decode cX11_isConnected 127 = .ok (.iload_n 1, 1) := by decide +kernel
theorem dX11_isConnected_128 : decode cX11_isConnected 128 = .ok (.iconst 1, 1) := by decide +kernel
theorem dX11_isConnected_129 : decode cX11_isConnected 129 = .ok (.aload_n 0, 1) := by decide +kernel
theorem dX11_isConnected_130 : decode cX11_isConnected 130 = .ok (.getfield 77, 3) := by decide +kernel
theorem dX11_isConnected_133 : decode cX11_isConnected 133 = .ok (.ishl, 1) := by decide +kernel
theorem dX11_isConnected_134 : decode cX11_isConnected 134 = .ok (.iconst 1, 1) := by decide +kernel
theorem dX11_isConnected_135 : decode cX11_isConnected 135 = .ok (.isub, 1) := by decide +kernel
theorem dX11_isConnected_136 : decode cX11_isConnected 136 = .ok (.if_icmp .ne 7, 3) := by decide +kernel
theorem dX11_isConnected_139 : decode cX11_isConnected 139 = .ok (.iconst 1, 1) := by decide +kernel
theorem dX11_isConnected_140 : decode cX11_isConnected 140 = .ok (.goto 4, 3) := by decide +kernel
theorem dX11_isConnected_143 : decode cX11_isConnected 143 = .ok (.iconst 0, 1) := by decide +kernel
theorem dX11_isConnected_144 : decode cX11_isConnected 144 = .ok (.ireturn, 1) := by decide +kernel
theorem dX11_inner_0 : decode cX11_inner 0 = .ok (.aload_n 0, 1) := by decide +kernel
theorem dX11_inner_1 : decode cX11_inner 1 = .ok (.getfield 81, 3) := by decide +kernel
theorem dX11_inner_4 : decode cX11_inner 4 = .ok (.aload_n 0, 1) := by decide +kernel
theorem dX11_inner_5 : decode cX11_inner 5 = .ok (.getfield 19, 3) := by decide +kernel
theorem dX11_inner_8 : decode cX11_inner 8 = .ok (.aload_n 0, 1) := by decide +kernel
theorem dX11_inner_9 : decode cX11_inner 9 = .ok (.getfield 84, 3) := by decide +kernel
theorem dX11_inner_12 : decode cX11_inner 12 = .ok (.iaload, 1) := by decide +kernel
theorem dX11_inner_13 : decode cX11_inner 13 = .ok (.isub, 1) := by decide +kernel
theorem dX11_inner_14 : decode cX11_inner 14 = .ok (.ireturn, 1) := by decide +kernel
theorem dX11_sum_0 : decode cX11_sum 0 = .ok (.iconst 0, 1) := by decide +kernel
theorem dX11_sum_1 : decode cX11_sum 1 = .ok (.istore_n 1, 1) := by decide +kernel
theorem dX11_sum_2 : decode cX11_sum 2 = .ok (.iconst 0, 1) := by decide +kernel
theorem dX11_sum_3 : decode cX11_sum 3 = .ok (.istore_n 2, 1) := by decide +kernel
theorem dX11_sum_4 : decode cX11_sum 4 = .ok (.iload_n 2, 1) := by decide +kernel
theorem dX11_sum_5 : decode cX11_sum 5 = .ok (.aload_n 0, 1) := by decide +kernel
theorem dX11_sum_6 : decode cX11_sum 6 = .ok (.getfield 77, 3) := by decide +kernel
theorem dX11_sum_9 : decode cX11_sum 9 = .ok (.if_icmp .ge 18, 3) := by decide +kernel
theorem dX11_sum_12 : decode cX11_sum 12 = .ok (.iload_n 1, 1) := by decide +kernel
theorem dX11_sum_13 : decode cX11_sum 13 = .ok (.aload_n 0, 1) := by decide +kernel
theorem dX11_sum_14 : decode cX11_sum 14 = .ok (.getfield 22, 3) := by decide +kernel
theorem dX11_sum_17 : decode cX11_sum 17 = .ok (.iload_n 2, 1) := by decide +kernel
theorem dX11_sum_18 : decode cX11_sum 18 = .ok (.iaload, 1) := by decide +kernel
theorem dX11_sum_19 : decode cX11_sum 19 = .ok (.iadd, 1) := by decide +kernel
theorem dX11_sum_20 : decode cX11_sum 20 = .ok (.istore_n 1, 1) := by decide +kernel
theorem dX11_sum_21 : decode cX11_sum 21 = .ok (.iinc 2 1, 3) := by decide +kernel
theorem dX11_sum_24 : decode cX11_sum 24 = .ok (.goto (-20), 3) := by decide +kernel
theorem dX11_sum_27 : decode cX11_sum 27 = .ok (.iload_n 1, 1) := by decide +kernel
theorem dX11_sum_28 : decode cX11_sum 28 = .ok (.ireturn, 1) := by decide +kernel
theorem dX11_value_0 : decode cX11_value 0 = .ok (.iload_n 1, 1) := by decide +kernel
theorem dX11_value_1 : decode cX11_value 1 = .ok (.tableswitch 86 0 6 #[43, 48, 53, 58, 71, 76, 81], 43) := by decide +kernel
theorem dX11_value_44 : decode cX11_value 44 = .ok (.aload_n 0, 1) := by decide +kernel
theorem dX11_value_45 : decode cX11_value 45 = .ok (.getfield 77, 3) := by decide +kernel
theorem dX11_value_48 : decode cX11_value 48 = .ok (.ireturn, 1) := by decide +kernel
theorem dX11_value_49 : decode cX11_value 49 = .ok (.aload_n 0, 1) := by decide +kernel
theorem dX11_value_50 : decode cX11_value 50 = .ok (.getfield 81, 3) := by decide +kernel
theorem dX11_value_53 : decode cX11_value 53 = .ok (.ireturn, 1) := by decide +kernel
theorem dX11_value_54 : decode cX11_value 54 = .ok (.aload_n 0, 1) := by decide +kernel
theorem dX11_value_55 : decode cX11_value 55 = .ok (.getfield 84, 3) := by decide +kernel
theorem dX11_value_58 : decode cX11_value 58 = .ok (.ireturn, 1) := by decide +kernel
theorem dX11_value_59 : decode cX11_value 59 = .ok (.aload_n 0, 1) := by decide +kernel
theorem dX11_value_60 : decode cX11_value 60 = .ok (.invokevirtual 119, 3) := by decide +kernel
theorem dX11_value_63 : decode cX11_value 63 = .ok (.ifCond .eq 7, 3) := by decide +kernel
theorem dX11_value_66 : decode cX11_value 66 = .ok (.iconst 1, 1) := by decide +kernel
theorem dX11_value_67 : decode cX11_value 67 = .ok (.goto 4, 3) := by decide +kernel
theorem dX11_value_70 : decode cX11_value 70 = .ok (.iconst 0, 1) := by decide +kernel
theorem dX11_value_71 : decode cX11_value 71 = .ok (.ireturn, 1) := by decide +kernel
theorem dX11_value_72 : decode cX11_value 72 = .ok (.aload_n 0, 1) := by decide +kernel
theorem dX11_value_73 : decode cX11_value 73 = .ok (.invokevirtual 123, 3) := by decide +kernel
theorem dX11_value_76 : decode cX11_value 76 = .ok (.ireturn, 1) := by decide +kernel
theorem dX11_value_77 : decode cX11_value 77 = .ok (.aload_n 0, 1) := by decide +kernel
theorem dX11_value_78 : decode cX11_value 78 = .ok (.getfield 90, 3) := by decide +kernel
theorem dX11_value_81 : decode cX11_value 81 = .ok (.ireturn, 1) := by decide +kernel
theorem dX11_value_82 : decode cX11_value 82 = .ok (.aload_n 0, 1) := by decide +kernel
theorem dX11_value_83 : decode cX11_value 83 = .ok (.invokevirtual 127, 3) := by decide +kernel
theorem dX11_value_86 : decode cX11_value 86 = .ok (.ireturn, 1) := by decide +kernel
theorem dX11_value_87 : decode cX11_value 87 = .ok (.sipush (-10002), 3) := by decide +kernel
theorem dX11_value_90 : decode cX11_value 90 = .ok (.ireturn, 1) := by decide +kernel
theorem dX11_degree_0 : decode cX11_degree 0 = .ok (.aload_n 0, 1) := by decide +kernel
theorem dX11_degree_1 : decode cX11_degree 1 = .ok (.iload_n 1, 1) := by decide +kernel
theorem dX11_degree_2 : decode cX11_degree 2 = .ok (.invokevirtual 101, 3) := by decide +kernel
theorem dX11_degree_5 : decode cX11_degree 5 = .ok (.ifCond .eq 12, 3) := by decide +kernel
theorem dX11_degree_8 : decode cX11_degree 8 = .ok (.aload_n 0, 1) := by decide +kernel
theorem dX11_degree_9 : decode cX11_degree 9 = .ok (.getfield 19, 3) := by decide +kernel
theorem dX11_degree_12 : decode cX11_degree 12 = .ok (.iload_n 1, 1) := by decide +kernel
theorem dX11_degree_13 : decode cX11_degree 13 = .ok (.iaload, 1) := by decide +kernel
theorem dX11_degree_14 : decode cX11_degree 14 = .ok (.goto 6, 3) := by decide +kernel
theorem dX11_degree_17 : decode cX11_degree 17 = .ok (.sipush (-10001), 3) := by decide +kernel
theorem dX11_degree_20 : decode cX11_degree 20 = .ok (.ireturn, 1) := by decide +kernel
theorem dX11_edge_0 : decode cX11_edge 0 = .ok (.iload_n 1, 1) := by decide +kernel
theorem dX11_edge_1 : decode cX11_edge 1 = .ok (.iconst 0, 1) := by decide +kernel
theorem dX11_edge_2 : decode cX11_edge 2 = .ok (.aload_n 0, 1) := by decide +kernel
theorem dX11_edge_3 : decode cX11_edge 3 = .ok (.getfield 81, 3) := by decide +kernel
theorem dX11_edge_6 : decode cX11_edge 6 = .ok (.iconst 1, 1) := by decide +kernel
theorem dX11_edge_7 : decode cX11_edge 7 = .ok (.isub, 1) := by decide +kernel
theorem dX11_edge_8 : decode cX11_edge 8 = .ok (.invokestatic 97, 3) := by decide +kernel
theorem dX11_edge_11 : decode cX11_edge 11 = .ok (.ifCond .eq 25, 3) := by decide +kernel
theorem dX11_edge_14 : decode cX11_edge 14 = .ok (.iload_n 2, 1) := by decide +kernel
theorem dX11_edge_15 : decode cX11_edge 15 = .ok (.ifCond .eq 12, 3) := by decide +kernel
theorem dX11_edge_18 : decode cX11_edge 18 = .ok (.aload_n 0, 1) := by decide +kernel
theorem dX11_edge_19 : decode cX11_edge 19 = .ok (.getfield 13, 3) := by decide +kernel
theorem dX11_edge_22 : decode cX11_edge 22 = .ok (.iload_n 1, 1) := by decide +kernel
theorem dX11_edge_23 : decode cX11_edge 23 = .ok (.iaload, 1) := by decide +kernel
theorem dX11_edge_24 : decode cX11_edge 24 = .ok (.goto 15, 3) := by decide +kernel
theorem dX11_edge_27 : decode cX11_edge 27 = .ok (.aload_n 0, 1) := by decide +kernel
theorem dX11_edge_28 : decode cX11_edge 28 = .ok (.getfield 7, 3) := by decide +kernel
theorem dX11_edge_31 : decode cX11_edge 31 = .ok (.iload_n 1, 1) := by decide +kernel
theorem dX11_edge_32 : decode cX11_edge 32 = .ok (.iaload, 1) := by decide +kernel
theorem dX11_edge_33 : decode cX11_edge 33 = .ok (.goto 6, 3) := by decide +kernel
theorem dX11_edge_36 : decode cX11_edge 36 = .ok (.sipush (-10001), 3) := by decide +kernel
theorem dX11_edge_39 : decode cX11_edge 39 = .ok (.ireturn, 1) := by decide +kernel
theorem dX11_keepState_0 : decode cX11_keepState 0 = .ok (.aload_n 0, 1) := by decide +kernel
theorem dX11_keepState_1 : decode cX11_keepState 1 = .ok (.getfield 90, 3) := by decide +kernel
theorem dX11_keepState_4 : decode cX11_keepState 4 = .ok (.bipush 12, 2) := by decide +kernel
theorem dX11_keepState_6 : decode cX11_keepState 6 = .ok (.if_icmp .ne 47, 3) := by decide +kernel
theorem dX11_keepState_9 : decode cX11_keepState 9 = .ok (.aload_n 0, 1) := by decide +kernel
theorem dX11_keepState_10 : decode cX11_keepState 10 = .ok (.dup, 1) := by decide +kernel
theorem dX11_keepState_11 : decode cX11_keepState 11 = .ok (.getfield 90, 3) := by decide +kernel
theorem dX11_keepState_14 : decode cX11_keepState 14 = .ok (.iconst 1, 1) := by decide +kernel
theorem dX11_keepState_15 : decode cX11_keepState 15 = .ok (.isub, 1) := by decide +kernel
theorem dX11_keepState_16 : decode cX11_keepState 16 = .ok (.putfield 90, 3) := by decide +kernel
theorem dX11_keepState_19 : decode cX11_keepState 19 = .ok (.iconst 0, 1) := by decide +kernel
theorem dX11_keepState_20 : decode cX11_keepState 20 = .ok (.istore_n 1, 1) := by decide +kernel
theorem dX11_keepState_21 : decode cX11_keepState 21 = .ok (.iload_n 1, 1) := by decide +kernel
theorem dX11_keepState_22 : decode cX11_keepState 22 = .ok (.bipush 8, 2) := by decide +kernel
theorem dX11_keepState_24 : decode cX11_keepState 24 = .ok (.aload_n 0, 1) := by decide +kernel
theorem dX11_keepState_25 : decode cX11_keepState 25 = .ok (.getfield 90, 3) := by decide +kernel
theorem dX11_keepState_28 : decode cX11_keepState 28 = .ok (.imul, 1) := by decide +kernel
theorem dX11_keepState_29 : decode cX11_keepState 29 = .ok (.if_icmp .ge 24, 3) := by decide +kernel
theorem dX11_keepState_32 : decode cX11_keepState 32 = .ok (.aload_n 0, 1) := by decide +kernel
theorem dX11_keepState_33 : decode cX11_keepState 33 = .ok (.getfield 32, 3) := by decide +kernel
theorem dX11_keepState_36 : decode cX11_keepState 36 = .ok (.iload_n 1, 1) := by decide +kernel
theorem dX11_keepState_37 : decode cX11_keepState 37 = .ok (.aload_n 0, 1) := by decide +kernel
theorem dX11_keepState_38 : decode cX11_keepState 38 = .ok (.getfield 32, 3) := by decide +kernel
theorem dX11_keepState_41 : decode cX11_keepState 41 = .ok (.iload_n 1, 1) := by decide +kernel
theorem dX11_keepState_42 : decode cX11_keepState 42 = .ok (.bipush 8, 2) := by decide +kernel
theorem dX11_keepState_44 : decode cX11_keepState 44 = .ok (.iadd, 1) := by decide +kernel
theorem dX11_keepState_45 : decode cX11_keepState 45 = .ok (.iaload, 1) := by decide +kernel
theorem dX11_keepState_46 : decode cX11_keepState 46 = .ok (.iastore, 1) := by decide +kernel
theorem dX11_keepState_47 : decode cX11_keepState 47 = .ok (.iinc 1 1, 3) := by decide +kernel
theorem dX11_keepState_50 : decode cX11_keepState 50 = .ok (.goto (-29), 3) := by decide +kernel
theorem dX11_keepState_53 : decode cX11_keepState 53 = .ok (.iconst 0, 1) := by decide +kernel
theorem dX11_keepState_54 : decode cX11_keepState 54 = .ok (.istore_n 1, 1) := by decide +kernel
theorem dX11_keepState_55 : decode cX11_keepState 55 = .ok (.iload_n 1, 1) := by decide +kernel
theorem dX11_keepState_56 : decode cX11_keepState 56 = .ok (.bipush 8, 2) := by decide +kernel
theorem dX11_keepState_58 : decode cX11_keepState 58 = .ok (.if_icmp .ge 29, 3) := by decide +kernel
theorem dX11_keepState_61 : decode cX11_keepState 61 = .ok (.aload_n 0, 1) := by decide +kernel
theorem dX11_keepState_62 : decode cX11_keepState 62 = .ok (.getfield 32, 3) := by decide +kernel
theorem dX11_keepState_65 : decode cX11_keepState 65 = .ok (.bipush 8, 2) := by decide +kernel
theorem dX11_keepState_67 : decode cX11_keepState 67 = .ok (.aload_n 0, 1) := by decide +kernel
theorem dX11_keepState_68 : decode cX11_keepState 68 = .ok (.getfield 90, 3) := by decide +kernel
theorem dX11_keepState_71 : decode cX11_keepState 71 = .ok (.imul, 1) := by decide +kernel
theorem dX11_keepState_72 : decode cX11_keepState 72 = .ok (.iload_n 1, 1) := by decide +kernel
theorem dX11_keepState_73 : decode cX11_keepState 73 = .ok (.iadd, 1) := by decide +kernel
theorem dX11_keepState_74 : decode cX11_keepState 74 = .ok (.aload_n 0, 1) := by decide +kernel
theorem dX11_keepState_75 : decode cX11_keepState 75 = .ok (.getfield 22, 3) := by decide +kernel
theorem dX11_keepState_78 : decode cX11_keepState 78 = .ok (.iload_n 1, 1) := by decide +kernel
theorem dX11_keepState_79 : decode cX11_keepState 79 = .ok (.iaload, 1) := by decide +kernel
theorem dX11_keepState_80 : decode cX11_keepState 80 = .ok (.iastore, 1) := by decide +kernel
theorem dX11_keepState_81 : decode cX11_keepState 81 = .ok (.iinc 1 1, 3) := by decide +kernel
theorem dX11_keepState_84 : decode cX11_keepState 84 = .ok (.goto (-29), 3) := by decide +kernel
theorem dX11_keepState_87 : decode cX11_keepState 87 = .ok (.aload_n 0, 1) := by decide +kernel
theorem dX11_keepState_88 : decode cX11_keepState 88 = .ok (.dup, 1) := by decide +kernel
theorem dX11_keepState_89 : decode cX11_keepState 89 = .ok (.getfield 90, 3) := by decide +kernel
theorem dX11_keepState_92 : decode cX11_keepState 92 = .ok (.iconst 1, 1) := by decide +kernel
theorem dX11_keepState_93 : decode cX11_keepState 93 = .ok (.iadd, 1) := by decide +kernel
theorem dX11_keepState_94 : decode cX11_keepState 94 = .ok (.putfield 90, 3) := by decide +kernel
theorem dX11_keepState_97 : decode cX11_keepState 97 = .ok (.return_, 1) := by decide +kernel
theorem dX11_undo_0 : decode cX11_undo 0 = .ok (.aload_n 0, 1) := by decide +kernel
theorem dX11_undo_1 : decode cX11_undo 1 = .ok (.getfield 90, 3) := by decide +kernel
theorem dX11_undo_4 : decode cX11_undo 4 = .ok (.ifCond .ne 7, 3) := by decide +kernel
theorem dX11_undo_7 : decode cX11_undo 7 = .ok (.sipush (-10007), 3) := by decide +kernel
theorem dX11_undo_10 : decode cX11_undo 10 = .ok (.ireturn, 1) := by decide +kernel
theorem dX11_undo_11 : decode cX11_undo 11 = .ok (.aload_n 0, 1) := by decide +kernel
theorem dX11_undo_12 : decode cX11_undo 12 = .ok (.dup, 1) := by decide +kernel
theorem dX11_undo_13 : decode cX11_undo 13 = .ok (.getfield 90, 3) := by decide +kernel
theorem dX11_undo_16 : decode cX11_undo 16 = .ok (.iconst 1, 1) := by decide +kernel
theorem dX11_undo_17 : decode cX11_undo 17 = .ok (.isub, 1) := by decide +kernel
theorem dX11_undo_18 : decode cX11_undo 18 = .ok (.putfield 90, 3) := by decide +kernel
theorem dX11_undo_21 : decode cX11_undo 21 = .ok (.iconst 0, 1) := by decide +kernel
theorem dX11_undo_22 : decode cX11_undo 22 = .ok (.istore_n 1, 1) := by decide +kernel
theorem dX11_undo_23 : decode cX11_undo 23 = .ok (.iload_n 1, 1) := by decide +kernel
theorem dX11_undo_24 : decode cX11_undo 24 = .ok (.bipush 8, 2) := by decide +kernel
theorem dX11_undo_26 : decode cX11_undo 26 = .ok (.if_icmp .ge 29, 3) := by decide +kernel
theorem dX11_undo_29 : decode cX11_undo 29 = .ok (.aload_n 0, 1) := by decide +kernel
theorem dX11_undo_30 : decode cX11_undo 30 = .ok (.getfield 22, 3) := by decide +kernel
theorem dX11_undo_33 : decode cX11_undo 33 = .ok (.iload_n 1, 1) := by decide +kernel
theorem dX11_undo_34 : decode cX11_undo 34 = .ok (.aload_n 0, 1) := by decide +kernel
theorem dX11_undo_35 : decode cX11_undo 35 = .ok (.getfield 32, 3) := by decide +kernel
theorem dX11_undo_38 : decode cX11_undo 38 = .ok (.bipush 8, 2) := by decide +kernel
theorem dX11_undo_40 : decode cX11_undo 40 = .ok (.aload_n 0, 1) := by decide +kernel
theorem dX11_undo_41 : decode cX11_undo 41 = .ok (.getfield 90, 3) := by decide +kernel
theorem dX11_undo_44 : decode cX11_undo 44 = .ok (.imul, 1) := by decide +kernel
theorem dX11_undo_45 : decode cX11_undo 45 = .ok (.iload_n 1, 1) := by decide +kernel
theorem dX11_undo_46 : decode cX11_undo 46 = .ok (.iadd, 1) := by decide +kernel
theorem dX11_undo_47 : decode cX11_undo 47 = .ok (.iaload, 1) := by decide +kernel
theorem dX11_undo_48 : decode cX11_undo 48 = .ok (.iastore, 1) := by decide +kernel
theorem dX11_undo_49 : decode cX11_undo 49 = .ok (.iinc 1 1, 3) := by decide +kernel
theorem dX11_undo_52 : decode cX11_undo 52 = .ok (.goto (-29), 3) := by decide +kernel
theorem dX11_undo_55 : decode cX11_undo 55 = .ok (.aload_n 0, 1) := by decide +kernel
theorem dX11_undo_56 : decode cX11_undo 56 = .ok (.getfield 90, 3) := by decide +kernel
theorem dX11_undo_59 : decode cX11_undo 59 = .ok (.ireturn, 1) := by decide +kernel
theorem dX11_setChips_0 : decode cX11_setChips 0 = .ok (.aload_n 0, 1) := by decide +kernel
theorem dX11_setChips_1 : decode cX11_setChips 1 = .ok (.iload_n 1, 1) := by decide +kernel
theorem dX11_setChips_2 : decode cX11_setChips 2 = .ok (.invokevirtual 130, 3) := by decide +kernel
theorem dX11_setChips_5 : decode cX11_setChips 5 = .ok (.ifCond .ne 7, 3) := by decide +kernel
theorem dX11_setChips_8 : decode cX11_setChips 8 = .ok (.sipush (-10001), 3) := by decide +kernel
theorem dX11_setChips_11 : decode cX11_setChips 11 = .ok (.ireturn, 1) := by decide +kernel
theorem dX11_setChips_12 : decode cX11_setChips 12 = .ok (.iload_n 2, 1) := by decide +kernel
theorem dX11_setChips_13 : decode cX11_setChips 13 = .ok (.iconst 0, 1) := by decide +kernel
theorem dX11_setChips_14 : decode cX11_setChips 14 = .ok (.sipush 1000, 3) := by decide +kernel
theorem dX11_setChips_17 : decode cX11_setChips 17 = .ok (.invokestatic 97, 3) := by decide +kernel
theorem dX11_setChips_20 : decode cX11_setChips 20 = .ok (.ifCond .ne 7, 3) := by decide +kernel
theorem dX11_setChips_23 : decode cX11_setChips 23 = .ok (.sipush (-10002), 3) := by decide +kernel
theorem dX11_setChips_26 : decode cX11_setChips 26 = .ok (.ireturn, 1) := by decide +kernel
theorem dX11_setChips_27 : decode cX11_setChips 27 = .ok (.aload_n 0, 1) := by decide +kernel
theorem dX11_setChips_28 : decode cX11_setChips 28 = .ok (.invokevirtual 133, 3) := by decide +kernel
theorem dX11_setChips_31 : decode cX11_setChips 31 = .ok (.aload_n 0, 1) := by decide +kernel
theorem dX11_setChips_32 : decode cX11_setChips 32 = .ok (.getfield 22, 3) := by decide +kernel
theorem dX11_setChips_35 : decode cX11_setChips 35 = .ok (.iload_n 1, 1) := by decide +kernel
theorem dX11_setChips_36 : decode cX11_setChips 36 = .ok (.iaload, 1) := by decide +kernel
theorem dX11_setChips_37 : decode cX11_setChips 37 = .ok (.istore_n 3, 1) := by decide +kernel
theorem dX11_setChips_38 : decode cX11_setChips 38 = .ok (.aload_n 0, 1) := by decide +kernel
theorem dX11_setChips_39 : decode cX11_setChips 39 = .ok (.getfield 22, 3) := by decide +kernel
theorem dX11_setChips_42 : decode cX11_setChips 42 = .ok (.iload_n 1, 1) := by decide +kernel
theorem dX11_setChips_43 : decode cX11_setChips 43 = .ok (.iload_n 2, 1) := by decide +kernel
theorem dX11_setChips_44 : decode cX11_setChips 44 = .ok (.iastore, 1) := by decide +kernel
theorem dX11_setChips_45 : decode cX11_setChips 45 = .ok (.iload_n 3, 1) := by decide +kernel
theorem dX11_setChips_46 : decode cX11_setChips 46 = .ok (.ireturn, 1) := by decide +kernel
theorem dX11_chips_0 : decode cX11_chips 0 = .ok (.aload_n 0, 1) := by decide +kernel
theorem dX11_chips_1 : decode cX11_chips 1 = .ok (.iload_n 1, 1) := by decide +kernel
theorem dX11_chips_2 : decode cX11_chips 2 = .ok (.invokevirtual 130, 3) := by decide +kernel
theorem dX11_chips_5 : decode cX11_chips 5 = .ok (.ifCond .eq 12, 3) := by decide +kernel
theorem dX11_chips_8 : decode cX11_chips 8 = .ok (.aload_n 0, 1) := by decide +kernel
theorem dX11_chips_9 : decode cX11_chips 9 = .ok (.getfield 22, 3) := by decide +kernel
theorem dX11_chips_12 : decode cX11_chips 12 = .ok (.iload_n 1, 1) := by decide +kernel
theorem dX11_chips_13 : decode cX11_chips 13 = .ok (.iaload, 1) := by decide +kernel
theorem dX11_chips_14 : decode cX11_chips 14 = .ok (.goto 6, 3) := by decide +kernel
theorem dX11_chips_17 : decode cX11_chips 17 = .ok (.sipush (-10001), 3) := by decide +kernel
theorem dX11_chips_20 : decode cX11_chips 20 = .ok (.ireturn, 1) := by decide +kernel
theorem dX11_canFire_0 : decode cX11_canFire 0 = .ok (.iload_n 2, 1) := by decide +kernel
theorem dX11_canFire_1 : decode cX11_canFire 1 = .ok (.aload_n 0, 1) := by decide +kernel
theorem dX11_canFire_2 : decode cX11_canFire 2 = .ok (.getfield 84, 3) := by decide +kernel
theorem dX11_canFire_5 : decode cX11_canFire 5 = .ok (.if_icmp .eq 28, 3) := by decide +kernel
theorem dX11_canFire_8 : decode cX11_canFire 8 = .ok (.aload_n 0, 1) := by decide +kernel
theorem dX11_canFire_9 : decode cX11_canFire 9 = .ok (.getfield 19, 3) := by decide +kernel
theorem dX11_canFire_12 : decode cX11_canFire 12 = .ok (.iload_n 2, 1) := by decide +kernel
theorem dX11_canFire_13 : decode cX11_canFire 13 = .ok (.iaload, 1) := by decide +kernel
theorem dX11_canFire_14 : decode cX11_canFire 14 = .ok (.ifCond .le 19, 3) := by decide +kernel
theorem dX11_canFire_17 : decode cX11_canFire 17 = .ok (.aload_n 1, 1) := by decide +kernel
theorem dX11_canFire_18 : decode cX11_canFire 18 = .ok (.iload_n 2, 1) := by decide +kernel
theorem dX11_canFire_19 : decode cX11_canFire 19 = .ok (.iaload, 1) := by decide +kernel
theorem dX11_canFire_20 : decode cX11_canFire 20 = .ok (.aload_n 0, 1) := by decide +kernel
theorem dX11_canFire_21 : decode cX11_canFire 21 = .ok (.getfield 19, 3) := by decide +kernel
theorem dX11_canFire_24 : decode cX11_canFire 24 = .ok (.iload_n 2, 1) := by decide +kernel
theorem dX11_canFire_25 : decode cX11_canFire 25 = .ok (.iaload, 1) := by decide +kernel
theorem dX11_canFire_26 : decode cX11_canFire 26 = .ok (.if_icmp .lt 7, 3) := by decide +kernel
theorem dX11_canFire_29 : decode cX11_canFire 29 = .ok (.iconst 1, 1) := by decide +kernel
theorem dX11_canFire_30 : decode cX11_canFire 30 = .ok (.goto 4, 3) := by decide +kernel
theorem dX11_canFire_33 : decode cX11_canFire 33 = .ok (.iconst 0, 1) := by decide +kernel
theorem dX11_canFire_34 : decode cX11_canFire 34 = .ok (.ireturn, 1) := by decide +kernel
theorem dX11_fireTimes_0 : decode cX11_fireTimes 0 = .ok (.aload_n 1, 1) := by decide +kernel
theorem dX11_fireTimes_1 : decode cX11_fireTimes 1 = .ok (.iload_n 2, 1) := by decide +kernel
theorem dX11_fireTimes_2 : decode cX11_fireTimes 2 = .ok (.dup2, 1) := by decide +kernel
theorem dX11_fireTimes_3 : decode cX11_fireTimes 3 = .ok (.iaload, 1) := by decide +kernel
theorem dX11_fireTimes_4 : decode cX11_fireTimes 4 = .ok (.iload_n 3, 1) := by decide +kernel
theorem dX11_fireTimes_5 : decode cX11_fireTimes 5 = .ok (.aload_n 0, 1) := by decide +kernel
theorem dX11_fireTimes_6 : decode cX11_fireTimes 6 = .ok (.getfield 19, 3) := by decide +kernel
theorem dX11_fireTimes_9 : decode cX11_fireTimes 9 = .ok (.iload_n 2, 1) := by decide +kernel
theorem dX11_fireTimes_10 : decode cX11_fireTimes 10 = .ok (.iaload, 1) := by decide +kernel
theorem dX11_fireTimes_11 : decode cX11_fireTimes 11 = .ok (.imul, 1) := by decide +kernel
theorem dX11_fireTimes_12 : decode cX11_fireTimes 12 = .ok (.isub, 1) := by decide +kernel
theorem dX11_fireTimes_13 : decode cX11_fireTimes 13 = .ok (.iastore, 1) := by decide +kernel
theorem dX11_fireTimes_14 : decode cX11_fireTimes 14 = .ok (.iconst 0, 1) := by decide +kernel
theorem dX11_fireTimes_15 : decode cX11_fireTimes 15 = .ok (.istore 4, 2) := by decide +kernel
theorem dX11_fireTimes_17 : decode cX11_fireTimes 17 = .ok (.iload 4, 2) := by decide +kernel
theorem dX11_fireTimes_19 : decode cX11_fireTimes 19 = .ok (.aload_n 0, 1) := by decide +kernel
theorem dX11_fireTimes_20 : decode cX11_fireTimes 20 = .ok (.getfield 77, 3) := by decide +kernel
theorem dX11_fireTimes_23 : decode cX11_fireTimes 23 = .ok (.if_icmp .ge 43, 3) := by decide +kernel
theorem dX11_fireTimes_26 : decode cX11_fireTimes 26 = .ok (.aload_n 1, 1) := by decide +kernel
theorem dX11_fireTimes_27 : decode cX11_fireTimes 27 = .ok (.iload 4, 2) := by decide +kernel
theorem dX11_fireTimes_29 : decode cX11_fireTimes 29 = .ok (.dup2, 1) := by decide +kernel
theorem dX11_fireTimes_30 : decode cX11_fireTimes 30 = .ok (.iaload, 1) := by decide +kernel
theorem dX11_fireTimes_31 : decode cX11_fireTimes 31 = .ok (.iload 4, 2) := by decide +kernel
theorem dX11_fireTimes_33 : decode cX11_fireTimes 33 = .ok (.aload_n 0, 1) := by decide +kernel
theorem dX11_fireTimes_34 : decode cX11_fireTimes 34 = .ok (.getfield 84, 3) := by decide +kernel
theorem dX11_fireTimes_37 : decode cX11_fireTimes 37 = .ok (.if_icmp .ne 7, 3) := by decide +kernel
theorem dX11_fireTimes_40 : decode cX11_fireTimes 40 = .ok (.iconst 0, 1) := by decide +kernel
theorem dX11_fireTimes_41 : decode cX11_fireTimes 41 = .ok (.goto 17, 3) := by decide +kernel
theorem dX11_fireTimes_44 : decode cX11_fireTimes 44 = .ok (.iload_n 3, 1) := by decide +kernel
theorem dX11_fireTimes_45 : decode cX11_fireTimes 45 = .ok (.aload_n 0, 1) := by decide +kernel
theorem dX11_fireTimes_46 : decode cX11_fireTimes 46 = .ok (.getfield 16, 3) := by decide +kernel
theorem dX11_fireTimes_49 : decode cX11_fireTimes 49 = .ok (.bipush 8, 2) := by decide +kernel
theorem dX11_fireTimes_51 : decode cX11_fireTimes 51 = .ok (.iload_n 2, 1) := by decide +kernel
theorem dX11_fireTimes_52 : decode cX11_fireTimes 52 = .ok (.imul, 1) := by decide +kernel
theorem dX11_fireTimes_53 : decode cX11_fireTimes 53 = .ok (.iload 4, 2) := by decide +kernel
theorem dX11_fireTimes_55 : decode cX11_fireTimes 55 = .ok (.iadd, 1) := by decide +kernel
theorem dX11_fireTimes_56 : decode cX11_fireTimes 56 = .ok (.iaload, 1) := by decide +kernel
theorem dX11_fireTimes_57 : decode cX11_fireTimes 57 = .ok (.imul, 1) := by decide +kernel
theorem dX11_fireTimes_58 : decode cX11_fireTimes 58 = .ok (.iadd, 1) := by decide +kernel
theorem dX11_fireTimes_59 : decode cX11_fireTimes 59 = .ok (.iastore, 1) := by decide +kernel
theorem dX11_fireTimes_60 : decode cX11_fireTimes 60 = .ok (.iinc 4 1, 3) := by decide +kernel
theorem dX11_fireTimes_63 : decode cX11_fireTimes 63 = .ok (.goto (-46), 3) := by decide +kernel
theorem dX11_fireTimes_66 : decode cX11_fireTimes 66 = .ok (.return_, 1) := by decide +kernel
theorem dX11_fire_0 : decode cX11_fire 0 = .ok (.aload_n 0, 1) := by decide +kernel
theorem dX11_fire_1 : decode cX11_fire 1 = .ok (.iload_n 1, 1) := by decide +kernel
theorem dX11_fire_2 : decode cX11_fire 2 = .ok (.invokevirtual 130, 3) := by decide +kernel
theorem dX11_fire_5 : decode cX11_fire 5 = .ok (.ifCond .ne 7, 3) := by decide +kernel
theorem dX11_fire_8 : decode cX11_fire 8 = .ok (.sipush (-10001), 3) := by decide +kernel
theorem dX11_fire_11 : decode cX11_fire 11 = .ok (.ireturn, 1) := by decide +kernel
theorem dX11_fire_12 : decode cX11_fire 12 = .ok (.aload_n 0, 1) := by decide +kernel
theorem dX11_fire_13 : decode cX11_fire 13 = .ok (.aload_n 0, 1) := by decide +kernel
theorem dX11_fire_14 : decode cX11_fire 14 = .ok (.getfield 22, 3) := by decide +kernel
theorem dX11_fire_17 : decode cX11_fire 17 = .ok (.iload_n 1, 1) := by decide +kernel
theorem dX11_fire_18 : decode cX11_fire 18 = .ok (.invokevirtual 136, 3) := by decide +kernel
theorem dX11_fire_21 : decode cX11_fire 21 = .ok (.ifCond .ne 7, 3) := by decide +kernel
theorem dX11_fire_24 : decode cX11_fire 24 = .ok (.sipush (-10004), 3) := by decide +kernel
theorem dX11_fire_27 : decode cX11_fire 27 = .ok (.ireturn, 1) := by decide +kernel
theorem dX11_fire_28 : decode cX11_fire 28 = .ok (.aload_n 0, 1) := by decide +kernel
theorem dX11_fire_29 : decode cX11_fire 29 = .ok (.invokevirtual 133, 3) := by decide +kernel
theorem dX11_fire_32 : decode cX11_fire 32 = .ok (.aload_n 0, 1) := by decide +kernel
theorem dX11_fire_33 : decode cX11_fire 33 = .ok (.aload_n 0, 1) := by decide +kernel
theorem dX11_fire_34 : decode cX11_fire 34 = .ok (.getfield 22, 3) := by decide +kernel
theorem dX11_fire_37 : decode cX11_fire 37 = .ok (.iload_n 1, 1) := by decide +kernel
theorem dX11_fire_38 : decode cX11_fire 38 = .ok (.iconst 1, 1) := by decide +kernel
theorem dX11_fire_39 : decode cX11_fire 39 = .ok (.invokevirtual 140, 3) := by decide +kernel
theorem dX11_fire_42 : decode cX11_fire 42 = .ok (.aload_n 0, 1) := by decide +kernel
theorem dX11_fire_43 : decode cX11_fire 43 = .ok (.getfield 22, 3) := by decide +kernel
theorem dX11_fire_46 : decode cX11_fire 46 = .ok (.iload_n 1, 1) := by decide +kernel
theorem dX11_fire_47 : decode cX11_fire 47 = .ok (.iaload, 1) := by decide +kernel
theorem dX11_fire_48 : decode cX11_fire 48 = .ok (.ireturn, 1) := by decide +kernel
theorem dX11_settle_0 : decode cX11_settle 0 = .ok (.iconst 0, 1) := by decide +kernel
theorem dX11_settle_1 : decode cX11_settle 1 = .ok (.istore_n 2, 1) := by decide +kernel
theorem dX11_settle_2 : decode cX11_settle 2 = .ok (.iload_n 2, 1) := by decide +kernel
theorem dX11_settle_3 : decode cX11_settle 3 = .ok (.bipush 8, 2) := by decide +kernel
theorem dX11_settle_5 : decode cX11_settle 5 = .ok (.if_icmp .ge 16, 3) := by decide +kernel
theorem dX11_settle_8 : decode cX11_settle 8 = .ok (.aload_n 0, 1) := by decide +kernel
theorem dX11_settle_9 : decode cX11_settle 9 = .ok (.getfield 42, 3) := by decide +kernel
theorem dX11_settle_12 : decode cX11_settle 12 = .ok (.iload_n 2, 1) := by decide +kernel
theorem dX11_settle_13 : decode cX11_settle 13 = .ok (.iconst 0, 1) := by decide +kernel
theorem dX11_settle_14 : decode cX11_settle 14 = .ok (.iastore, 1) := by decide +kernel
theorem dX11_settle_15 : decode cX11_settle 15 = .ok (.iinc 2 1, 3) := by decide +kernel
theorem dX11_settle_18 : decode cX11_settle 18 = .ok (.goto (-16), 3) := by decide +kernel
theorem dX11_settle_21 : decode cX11_settle 21 = .ok (.iconst 0, 1) := by decide +kernel
theorem dX11_settle_22 : decode cX11_settle 22 = .ok (.istore_n 2, 1) := by decide +kernel
theorem dX11_settle_23 : decode cX11_settle 23 = .ok (.iconst 1, 1) := by decide +kernel
theorem dX11_settle_24 : decode cX11_settle 24 = .ok (.istore_n 3, 1) := by decide +kernel
theorem dX11_settle_25 : decode cX11_settle 25 = .ok (.iload_n 3, 1) := by decide +kernel
theorem dX11_settle_26 : decode cX11_settle 26 = .ok (.ifCond .eq 78, 3) := by decide +kernel
theorem dX11_settle_29 : decode cX11_settle 29 = .ok (.iconst 0, 1) := by decide +kernel
theorem dX11_settle_30 : decode cX11_settle 30 = .ok (.istore_n 3, 1) := by decide +kernel
theorem dX11_settle_31 : decode cX11_settle 31 = .ok (.iconst 0, 1) := by decide +kernel
theorem dX11_settle_32 : decode cX11_settle 32 = .ok (.istore 4, 2) := by decide +kernel
theorem dX11_settle_34 : decode cX11_settle 34 = .ok (.iload 4, 2) := by decide +kernel
theorem dX11_settle_36 : decode cX11_settle 36 = .ok (.aload_n 0, 1) := by decide +kernel
theorem dX11_settle_37 : decode cX11_settle 37 = .ok (.getfield 77, 3) := by decide +kernel
theorem dX11_settle_40 : decode cX11_settle 40 = .ok (.if_icmp .ge 61, 3) := by decide +kernel
theorem dX11_settle_43 : decode cX11_settle 43 = .ok (.aload_n 0, 1) := by decide +kernel
theorem dX11_settle_44 : decode cX11_settle 44 = .ok (.aload_n 1, 1) := by decide +kernel
theorem dX11_settle_45 : decode cX11_settle 45 = .ok (.iload 4, 2) := by decide +kernel
theorem dX11_settle_47 : decode cX11_settle 47 = .ok (.invokevirtual 136, 3) := by decide +kernel
theorem dX11_settle_50 : decode cX11_settle 50 = .ok (.ifCond .eq 45, 3) := by decide +kernel
theorem dX11_settle_53 : decode cX11_settle 53 = .ok (.aload_n 1, 1) := by decide +kernel
theorem dX11_settle_54 : decode cX11_settle 54 = .ok (.iload 4, 2) := by decide +kernel
theorem dX11_settle_56 : decode cX11_settle 56 = .ok (.iaload, 1) := by decide +kernel
theorem dX11_settle_57 : decode cX11_settle 57 = .ok (.aload_n 0, 1) := by decide +kernel
theorem dX11_settle_58 : decode cX11_settle 58 = .ok (.getfield 19, 3) := by decide +kernel
theorem dX11_settle_61 : decode cX11_settle 61 = .ok (.iload 4, 2) := by decide +kernel
theorem dX11_settle_63 : decode cX11_settle 63 = .ok (.iaload, 1) := by decide +kernel
theorem dX11_settle_64 : decode cX11_settle 64 = .ok (.idiv, 1) := by decide +kernel
theorem dX11_settle_65 : decode cX11_settle 65 = .ok (.istore 5, 2) := by decide +kernel
theorem dX11_settle_67 : decode cX11_settle 67 = .ok (.aload_n 0, 1) := by decide +kernel
theorem dX11_settle_68 : decode cX11_settle 68 = .ok (.aload_n 1, 1) := by decide +kernel
theorem dX11_settle_69 : decode cX11_settle 69 = .ok (.iload 4, 2) := by decide +kernel
theorem dX11_settle_71 : decode cX11_settle 71 = .ok (.iload 5, 2) := by decide +kernel
theorem dX11_settle_73 : decode cX11_settle 73 = .ok (.invokevirtual 140, 3) := by decide +kernel
theorem dX11_settle_76 : decode cX11_settle 76 = .ok (.aload_n 0, 1) := by decide +kernel
theorem dX11_settle_77 : decode cX11_settle 77 = .ok (.getfield 42, 3) := by decide +kernel
theorem dX11_settle_80 : decode cX11_settle 80 = .ok (.iload 4, 2) := by decide +kernel
theorem dX11_settle_82 : decode cX11_settle 82 = .ok (.dup2, 1) := by decide +kernel
theorem dX11_settle_83 : decode cX11_settle 83 = .ok (.iaload, 1) := by decide +kernel
theorem dX11_settle_84 : decode cX11_settle 84 = .ok (.iload 5, 2) := by decide +kernel
theorem dX11_settle_86 : decode cX11_settle 86 = .ok (.iadd, 1) := by decide +kernel
theorem dX11_settle_87 : decode cX11_settle 87 = .ok (.iastore, 1) := by decide +kernel
theorem dX11_settle_88 : decode cX11_settle 88 = .ok (.iload_n 2, 1) := by decide +kernel
theorem dX11_settle_89 : decode cX11_settle 89 = .ok (.iload 5, 2) := by decide +kernel
theorem dX11_settle_91 : decode cX11_settle 91 = .ok (.iadd, 1) := by decide +kernel
theorem dX11_settle_92 : decode cX11_settle 92 = .ok (.istore_n 2, 1) := by decide +kernel
theorem dX11_settle_93 : decode cX11_settle 93 = .ok (.iconst 1, 1) := by decide +kernel
theorem dX11_settle_94 : decode cX11_settle 94 = .ok (.istore_n 3, 1) := by decide +kernel
theorem dX11_settle_95 : decode cX11_settle 95 = .ok (.iinc 4 1, 3) := by decide +kernel
theorem dX11_settle_98 : decode cX11_settle 98 = .ok (.goto (-64), 3) := by decide +kernel
theorem dX11_settle_101 : decode cX11_settle 101 = .ok (.goto (-76), 3) := by decide +kernel
theorem dX11_settle_104 : decode cX11_settle 104 = .ok (.iload_n 2, 1) := by decide +kernel
theorem dX11_settle_105 : decode cX11_settle 105 = .ok (.ireturn, 1) := by decide +kernel
theorem dX11_copy_0 : decode cX11_copy 0 = .ok (.iconst 0, 1) := by decide +kernel
theorem dX11_copy_1 : decode cX11_copy 1 = .ok (.istore_n 3, 1) := by decide +kernel
theorem dX11_copy_2 : decode cX11_copy 2 = .ok (.iload_n 3, 1) := by decide +kernel
theorem dX11_copy_3 : decode cX11_copy 3 = .ok (.bipush 8, 2) := by decide +kernel
theorem dX11_copy_5 : decode cX11_copy 5 = .ok (.if_icmp .ge 15, 3) := by decide +kernel
theorem dX11_copy_8 : decode cX11_copy 8 = .ok (.aload_n 2, 1) := by decide +kernel
theorem dX11_copy_9 : decode cX11_copy 9 = .ok (.iload_n 3, 1) := by decide +kernel
theorem dX11_copy_10 : decode cX11_copy 10 = .ok (.aload_n 1, 1) := by decide +kernel
theorem dX11_copy_11 : decode cX11_copy 11 = .ok (.iload_n 3, 1) := by decide +kernel
theorem dX11_copy_12 : decode cX11_copy 12 = .ok (.iaload, 1) := by decide +kernel
theorem dX11_copy_13 : decode cX11_copy 13 = .ok (.iastore, 1) := by decide +kernel
theorem dX11_copy_14 : decode cX11_copy 14 = .ok (.iinc 3 1, 3) := by decide +kernel
theorem dX11_copy_17 : decode cX11_copy 17 = .ok (.goto (-15), 3) := by decide +kernel
theorem dX11_copy_20 : decode cX11_copy 20 = .ok (.return_, 1) := by decide +kernel
theorem dX11_stabilize_0 : decode cX11_stabilize 0 = .ok (.aload_n 0, 1) := by decide +kernel
theorem dX11_stabilize_1 : decode cX11_stabilize 1 = .ok (.invokevirtual 119, 3) := by decide +kernel
theorem dX11_stabilize_4 : decode cX11_stabilize 4 = .ok (.ifCond .ne 7, 3) := by decide +kernel
theorem dX11_stabilize_7 : decode cX11_stabilize 7 = .ok (.sipush (-10003), 3) := by decide +kernel
theorem dX11_stabilize_10 : decode cX11_stabilize 10 = .ok (.ireturn, 1) := by decide +kernel
theorem dX11_stabilize_11 : decode cX11_stabilize 11 = .ok (.aload_n 0, 1) := by decide +kernel
theorem dX11_stabilize_12 : decode cX11_stabilize 12 = .ok (.invokevirtual 133, 3) := by decide +kernel
theorem dX11_stabilize_15 : decode cX11_stabilize 15 = .ok (.aload_n 0, 1) := by decide +kernel
theorem dX11_stabilize_16 : decode cX11_stabilize 16 = .ok (.aload_n 0, 1) := by decide +kernel
theorem dX11_stabilize_17 : decode cX11_stabilize 17 = .ok (.getfield 22, 3) := by decide +kernel
theorem dX11_stabilize_20 : decode cX11_stabilize 20 = .ok (.invokevirtual 144, 3) := by decide +kernel
theorem dX11_stabilize_23 : decode cX11_stabilize 23 = .ok (.ireturn, 1) := by decide +kernel
theorem dX11_firings_0 : decode cX11_firings 0 = .ok (.aload_n 0, 1) := by decide +kernel
theorem dX11_firings_1 : decode cX11_firings 1 = .ok (.iload_n 1, 1) := by decide +kernel
theorem dX11_firings_2 : decode cX11_firings 2 = .ok (.invokevirtual 130, 3) := by decide +kernel
theorem dX11_firings_5 : decode cX11_firings 5 = .ok (.ifCond .ne 7, 3) := by decide +kernel
theorem dX11_firings_8 : decode cX11_firings 8 = .ok (.sipush (-10001), 3) := by decide +kernel
theorem dX11_firings_11 : decode cX11_firings 11 = .ok (.ireturn, 1) := by decide +kernel
theorem dX11_firings_12 : decode cX11_firings 12 = .ok (.aload_n 0, 1) := by decide +kernel
theorem dX11_firings_13 : decode cX11_firings 13 = .ok (.invokevirtual 119, 3) := by decide +kernel
theorem dX11_firings_16 : decode cX11_firings 16 = .ok (.ifCond .ne 7, 3) := by decide +kernel
theorem dX11_firings_19 : decode cX11_firings 19 = .ok (.sipush (-10003), 3) := by decide +kernel
theorem dX11_firings_22 : decode cX11_firings 22 = .ok (.ireturn, 1) := by decide +kernel
theorem dX11_firings_23 : decode cX11_firings 23 = .ok (.aload_n 0, 1) := by decide +kernel
theorem dX11_firings_24 : decode cX11_firings 24 = .ok (.aload_n 0, 1) := by decide +kernel
theorem dX11_firings_25 : decode cX11_firings 25 = .ok (.getfield 22, 3) := by decide +kernel
theorem dX11_firings_28 : decode cX11_firings 28 = .ok (.aload_n 0, 1) := by decide +kernel
theorem dX11_firings_29 : decode cX11_firings 29 = .ok (.getfield 45, 3) := by decide +kernel
theorem dX11_firings_32 : decode cX11_firings 32 = .ok (.invokevirtual 148, 3) := by decide +kernel
theorem dX11_firings_35 : decode cX11_firings 35 = .ok (.aload_n 0, 1) := by decide +kernel
theorem dX11_firings_36 : decode cX11_firings 36 = .ok (.aload_n 0, 1) := by decide +kernel
theorem dX11_firings_37 : decode cX11_firings 37 = .ok (.getfield 45, 3) := by decide +kernel
theorem dX11_firings_40 : decode cX11_firings 40 = .ok (.invokevirtual 144, 3) := by decide +kernel
theorem dX11_firings_43 : decode cX11_firings 43 = .ok (.pop, 1) := by decide +kernel
theorem dX11_firings_44 : decode cX11_firings 44 = .ok (.aload_n 0, 1) := by decide +kernel
theorem dX11_firings_45 : decode cX11_firings 45 = .ok (.getfield 42, 3) := by decide +kernel
theorem dX11_firings_48 : decode cX11_firings 48 = .ok (.iload_n 1, 1) := by decide +kernel
theorem dX11_firings_49 : decode cX11_firings 49 = .ok (.iaload, 1) := by decide +kernel
theorem dX11_firings_50 : decode cX11_firings 50 = .ok (.ireturn, 1) := by decide +kernel
theorem dX11_burn_0 : decode cX11_burn 0 = .ok (.iconst 0, 1) := by decide +kernel
theorem dX11_burn_1 : decode cX11_burn 1 = .ok (.istore_n 3, 1) := by decide +kernel
theorem dX11_burn_2 : decode cX11_burn 2 = .ok (.iload_n 3, 1) := by decide +kernel
theorem dX11_burn_3 : decode cX11_burn 3 = .ok (.bipush 8, 2) := by decide +kernel
theorem dX11_burn_5 : decode cX11_burn 5 = .ok (.if_icmp .ge 28, 3) := by decide +kernel
theorem dX11_burn_8 : decode cX11_burn 8 = .ok (.aload_n 0, 1) := by decide +kernel
theorem dX11_burn_9 : decode cX11_burn 9 = .ok (.getfield 29, 3) := by decide +kernel
theorem dX11_burn_12 : decode cX11_burn 12 = .ok (.iload_n 3, 1) := by decide +kernel
theorem dX11_burn_13 : decode cX11_burn 13 = .ok (.iload_n 3, 1) := by decide +kernel
theorem dX11_burn_14 : decode cX11_burn 14 = .ok (.aload_n 0, 1) := by decide +kernel
theorem dX11_burn_15 : decode cX11_burn 15 = .ok (.getfield 84, 3) := by decide +kernel
theorem dX11_burn_18 : decode cX11_burn 18 = .ok (.if_icmp .ne 7, 3) := by decide +kernel
theorem dX11_burn_21 : decode cX11_burn 21 = .ok (.iconst 0, 1) := by decide +kernel
theorem dX11_burn_22 : decode cX11_burn 22 = .ok (.goto 4, 3) := by decide +kernel
theorem dX11_burn_25 : decode cX11_burn 25 = .ok (.iconst (-1), 1) := by decide +kernel
theorem dX11_burn_26 : decode cX11_burn 26 = .ok (.iastore, 1) := by decide +kernel
theorem dX11_burn_27 : decode cX11_burn 27 = .ok (.iinc 3 1, 3) := by decide +kernel
theorem dX11_burn_30 : decode cX11_burn 30 = .ok (.goto (-28), 3) := by decide +kernel
theorem dX11_burn_33 : decode cX11_burn 33 = .ok (.iconst 1, 1) := by decide +kernel
theorem dX11_burn_34 : decode cX11_burn 34 = .ok (.istore_n 3, 1) := by decide +kernel
theorem dX11_burn_35 : decode cX11_burn 35 = .ok (.iconst 1, 1) := by decide +kernel
theorem dX11_burn_36 : decode cX11_burn 36 = .ok (.istore 4, 2) := by decide +kernel
theorem dX11_burn_38 : decode cX11_burn 38 = .ok (.iload_n 3, 1) := by decide +kernel
theorem dX11_burn_39 : decode cX11_burn 39 = .ok (.ifCond .eq 148, 3) := by decide +kernel
theorem dX11_burn_42 : decode cX11_burn 42 = .ok (.iconst 0, 1) := by decide +kernel
theorem dX11_burn_43 : decode cX11_burn 43 = .ok (.istore_n 3, 1) := by decide +kernel
theorem dX11_burn_44 : decode cX11_burn 44 = .ok (.iconst 0, 1) := by decide +kernel
theorem dX11_burn_45 : decode cX11_burn 45 = .ok (.istore 5, 2) := by decide +kernel
theorem dX11_burn_47 : decode cX11_burn 47 = .ok (.iload 5, 2) := by decide +kernel
theorem dX11_burn_49 : decode cX11_burn 49 = .ok (.aload_n 0, 1) := by decide +kernel
theorem dX11_burn_50 : decode cX11_burn 50 = .ok (.getfield 77, 3) := by decide +kernel
theorem dX11_burn_53 : decode cX11_burn 53 = .ok (.if_icmp .ge 128, 3) := by decide +kernel
theorem dX11_burn_56 : decode cX11_burn 56 = .ok (.aload_n 0, 1) := by decide +kernel
theorem dX11_burn_57 : decode cX11_burn 57 = .ok (.getfield 29, 3) := by decide +kernel
theorem dX11_burn_60 : decode cX11_burn 60 = .ok (.iload 5, 2) := by decide +kernel
theorem dX11_burn_62 : decode cX11_burn 62 = .ok (.iaload, 1) := by decide +kernel
theorem dX11_burn_63 : decode cX11_burn 63 = .ok (.ifCond .ge 112, 3) := by decide +kernel
theorem dX11_burn_66 : decode cX11_burn 66 = .ok (.iconst 0, 1) := by decide +kernel
theorem dX11_burn_67 : decode cX11_burn 67 = .ok (.istore 6, 2) := by decide +kernel
theorem dX11_burn_69 : decode cX11_burn 69 = .ok (.iconst 0, 1) := by decide +kernel
theorem dX11_burn_70 : decode cX11_burn 70 = .ok (.istore 7, 2) := by decide +kernel
theorem dX11_burn_72 : decode cX11_burn 72 = .ok (.iload 7, 2) := by decide +kernel
theorem dX11_burn_74 : decode cX11_burn 74 = .ok (.aload_n 0, 1) := by decide +kernel
theorem dX11_burn_75 : decode cX11_burn 75 = .ok (.getfield 77, 3) := by decide +kernel
theorem dX11_burn_78 : decode cX11_burn 78 = .ok (.if_icmp .ge 53, 3) := by decide +kernel
theorem dX11_burn_81 : decode cX11_burn 81 = .ok (.iload 6, 2) := by decide +kernel
theorem dX11_burn_83 : decode cX11_burn 83 = .ok (.aload_n 0, 1) := by decide +kernel
theorem dX11_burn_84 : decode cX11_burn 84 = .ok (.getfield 29, 3) := by decide +kernel
theorem dX11_burn_87 : decode cX11_burn 87 = .ok (.iload 7, 2) := by decide +kernel
theorem dX11_burn_89 : decode cX11_burn 89 = .ok (.iaload, 1) := by decide +kernel
theorem dX11_burn_90 : decode cX11_burn 90 = .ok (.ifCond .lt 31, 3) := by decide +kernel
theorem dX11_burn_93 : decode cX11_burn 93 = .ok (.aload_n 0, 1) := by decide +kernel
theorem dX11_burn_94 : decode cX11_burn 94 = .ok (.getfield 29, 3) := by decide +kernel
theorem dX11_burn_97 : decode cX11_burn 97 = .ok (.iload 7, 2) := by decide +kernel
theorem dX11_burn_99 : decode cX11_burn 99 = .ok (.iaload, 1) := by decide +kernel
theorem dX11_burn_100 : decode cX11_burn 100 = .ok (.iload 4, 2) := by decide +kernel
theorem dX11_burn_102 : decode cX11_burn 102 = .ok (.if_icmp .ge 19, 3) := by decide +kernel
theorem dX11_burn_105 : decode cX11_burn 105 = .ok (.aload_n 0, 1) := by decide +kernel
theorem dX11_burn_106 : decode cX11_burn 106 = .ok (.getfield 16, 3) := by decide +kernel
theorem dX11_burn_109 : decode cX11_burn 109 = .ok (.bipush 8, 2) := by decide +kernel
theorem dX11_burn_111 : decode cX11_burn 111 = .ok (.iload 5, 2) := by decide +kernel
theorem dX11_burn_113 : decode cX11_burn 113 = .ok (.imul, 1) := by decide +kernel
theorem dX11_burn_114 : decode cX11_burn 114 = .ok (.iload 7, 2) := by decide +kernel
theorem dX11_burn_116 : decode cX11_burn 116 = .ok (.iadd, 1) := by decide +kernel
theorem dX11_burn_117 : decode cX11_burn 117 = .ok (.iaload, 1) := by decide +kernel
theorem dX11_burn_118 : decode cX11_burn 118 = .ok (.goto 4, 3) := by decide +kernel
theorem dX11_burn_121 : decode cX11_burn 121 = .ok (.iconst 0, 1) := by decide +kernel
theorem dX11_burn_122 : decode cX11_burn 122 = .ok (.iadd, 1) := by decide +kernel
theorem dX11_burn_123 : decode cX11_burn 123 = .ok (.istore 6, 2) := by decide +kernel
theorem dX11_burn_125 : decode cX11_burn 125 = .ok (.iinc 7 1, 3) := by decide +kernel
theorem dX11_burn_128 : decode cX11_burn 128 = .ok (.goto (-56), 3) := by decide +kernel
theorem dX11_burn_131 : decode cX11_burn 131 = .ok (.iload_n 2, 1) := by decide +kernel
theorem dX11_burn_132 : decode cX11_burn 132 = .ok (.ifCond .eq 15, 3) := by decide +kernel
theorem dX11_burn_135 : decode cX11_burn 135 = .ok (.iload 6, 2) := by decide +kernel
theorem dX11_burn_137 : decode cX11_burn 137 = .ok (.aload_n 1, 1) := by decide +kernel
theorem dX11_burn_138 : decode cX11_burn 138 = .ok (.iload 5, 2) := by decide +kernel
theorem dX11_burn_140 : decode cX11_burn 140 = .ok (.iaload, 1) := by decide +kernel
theorem dX11_burn_141 : decode cX11_burn 141 = .ok (.if_icmp .le 34, 3) := by decide +kernel
theorem dX11_burn_144 : decode cX11_burn 144 = .ok (.goto 20, 3) := by decide +kernel
theorem dX11_burn_147 : decode cX11_burn 147 = .ok (.aload_n 1, 1) := by decide +kernel
theorem dX11_burn_148 : decode cX11_burn 148 = .ok (.iload 5, 2) := by decide +kernel
theorem dX11_burn_150 : decode cX11_burn 150 = .ok (.iaload, 1) := by decide +kernel
theorem dX11_burn_151 : decode cX11_burn 151 = .ok (.iload 6, 2) := by decide +kernel
theorem dX11_burn_153 : decode cX11_burn 153 = .ok (.iadd, 1) := by decide +kernel
theorem dX11_burn_154 : decode cX11_burn 154 = .ok (.aload_n 0, 1) := by decide +kernel
theorem dX11_burn_155 : decode cX11_burn 155 = .ok (.getfield 19, 3) := by decide +kernel
theorem dX11_burn_158 : decode cX11_burn 158 = .ok (.iload 5, 2) := by decide +kernel
theorem dX11_burn_160 : decode cX11_burn 160 = .ok (.iaload, 1) := by decide +kernel
theorem dX11_burn_161 : decode cX11_burn 161 = .ok (.if_icmp .lt 14, 3) := by decide +kernel
theorem dX11_burn_164 : decode cX11_burn 164 = .ok (.aload_n 0, 1) := by decide +kernel
theorem dX11_burn_165 : decode cX11_burn 165 = .ok (.getfield 29, 3) := by decide +kernel
theorem dX11_burn_168 : decode cX11_burn 168 = .ok (.iload 5, 2) := by decide +kernel
theorem dX11_burn_170 : decode cX11_burn 170 = .ok (.iload 4, 2) := by decide +kernel
theorem dX11_burn_172 : decode cX11_burn 172 = .ok (.iastore, 1) := by decide +kernel
theorem dX11_burn_173 : decode cX11_burn 173 = .ok (.iconst 1, 1) := by decide +kernel
theorem dX11_burn_174 : decode cX11_burn 174 = .ok (.istore_n 3, 1) := by decide +kernel
theorem dX11_burn_175 : decode cX11_burn 175 = .ok (.iinc 5 1, 3) := by decide +kernel
theorem dX11_burn_178 : decode cX11_burn 178 = .ok (.goto (-131), 3) := by decide +kernel
theorem dX11_burn_181 : decode cX11_burn 181 = .ok (.iinc 4 1, 3) := by decide +kernel
theorem dX11_burn_184 : decode cX11_burn 184 = .ok (.goto (-146), 3) := by decide +kernel
theorem dX11_burn_187 : decode cX11_burn 187 = .ok (.return_, 1) := by decide +kernel
theorem dX11_allBurn_0 : decode cX11_allBurn 0 = .ok (.iconst 1, 1) := by decide +kernel
theorem dX11_allBurn_1 : decode cX11_allBurn 1 = .ok (.istore_n 1, 1) := by decide +kernel
theorem dX11_allBurn_2 : decode cX11_allBurn 2 = .ok (.iconst 0, 1) := by decide +kernel
theorem dX11_allBurn_3 : decode cX11_allBurn 3 = .ok (.istore_n 2, 1) := by decide +kernel
theorem dX11_allBurn_4 : decode cX11_allBurn 4 = .ok (.iload_n 2, 1) := by decide +kernel
theorem dX11_allBurn_5 : decode cX11_allBurn 5 = .ok (.aload_n 0, 1) := by decide +kernel
theorem dX11_allBurn_6 : decode cX11_allBurn 6 = .ok (.getfield 77, 3) := by decide +kernel
theorem dX11_allBurn_9 : decode cX11_allBurn 9 = .ok (.if_icmp .ge 28, 3) := by decide +kernel
theorem dX11_allBurn_12 : decode cX11_allBurn 12 = .ok (.iload_n 1, 1) := by decide +kernel
theorem dX11_allBurn_13 : decode cX11_allBurn 13 = .ok (.ifCond .eq 16, 3) := by decide +kernel
theorem dX11_allBurn_16 : decode cX11_allBurn 16 = .ok (.aload_n 0, 1) := by decide +kernel
theorem dX11_allBurn_17 : decode cX11_allBurn 17 = .ok (.getfield 29, 3) := by decide +kernel
theorem dX11_allBurn_20 : decode cX11_allBurn 20 = .ok (.iload_n 2, 1) := by decide +kernel
theorem dX11_allBurn_21 : decode cX11_allBurn 21 = .ok (.iaload, 1) := by decide +kernel
theorem dX11_allBurn_22 : decode cX11_allBurn 22 = .ok (.ifCond .lt 7, 3) := by decide +kernel
theorem dX11_allBurn_25 : decode cX11_allBurn 25 = .ok (.iconst 1, 1) := by decide +kernel
theorem dX11_allBurn_26 : decode cX11_allBurn 26 = .ok (.goto 4, 3) := by decide +kernel
theorem dX11_allBurn_29 : decode cX11_allBurn 29 = .ok (.iconst 0, 1) := by decide +kernel
theorem dX11_allBurn_30 : decode cX11_allBurn 30 = .ok (.istore_n 1, 1) := by decide +kernel
theorem dX11_allBurn_31 : decode cX11_allBurn 31 = .ok (.iinc 2 1, 3) := by decide +kernel
theorem dX11_allBurn_34 : decode cX11_allBurn 34 = .ok (.goto (-30), 3) := by decide +kernel
theorem dX11_allBurn_37 : decode cX11_allBurn 37 = .ok (.iload_n 1, 1) := by decide +kernel
theorem dX11_allBurn_38 : decode cX11_allBurn 38 = .ok (.ireturn, 1) := by decide +kernel
theorem dX11_isStable_0 : decode cX11_isStable 0 = .ok (.iconst 1, 1) := by decide +kernel
theorem dX11_isStable_1 : decode cX11_isStable 1 = .ok (.istore_n 2, 1) := by decide +kernel
theorem dX11_isStable_2 : decode cX11_isStable 2 = .ok (.iconst 0, 1) := by decide +kernel
theorem dX11_isStable_3 : decode cX11_isStable 3 = .ok (.istore_n 3, 1) := by decide +kernel
theorem dX11_isStable_4 : decode cX11_isStable 4 = .ok (.iload_n 3, 1) := by decide +kernel
theorem dX11_isStable_5 : decode cX11_isStable 5 = .ok (.aload_n 0, 1) := by decide +kernel
theorem dX11_isStable_6 : decode cX11_isStable 6 = .ok (.getfield 77, 3) := by decide +kernel
theorem dX11_isStable_9 : decode cX11_isStable 9 = .ok (.if_icmp .ge 28, 3) := by decide +kernel
theorem dX11_isStable_12 : decode cX11_isStable 12 = .ok (.iload_n 2, 1) := by decide +kernel
theorem dX11_isStable_13 : decode cX11_isStable 13 = .ok (.ifCond .eq 16, 3) := by decide +kernel
theorem dX11_isStable_16 : decode cX11_isStable 16 = .ok (.aload_n 0, 1) := by decide +kernel
theorem dX11_isStable_17 : decode cX11_isStable 17 = .ok (.aload_n 1, 1) := by decide +kernel
theorem dX11_isStable_18 : decode cX11_isStable 18 = .ok (.iload_n 3, 1) := by decide +kernel
theorem dX11_isStable_19 : decode cX11_isStable 19 = .ok (.invokevirtual 136, 3) := by decide +kernel
theorem dX11_isStable_22 : decode cX11_isStable 22 = .ok (.ifCond .ne 7, 3) := by decide +kernel
theorem dX11_isStable_25 : decode cX11_isStable 25 = .ok (.iconst 1, 1) := by decide +kernel
theorem dX11_isStable_26 : decode cX11_isStable 26 = .ok (.goto 4, 3) := by decide +kernel
theorem dX11_isStable_29 : decode cX11_isStable 29 = .ok (.iconst 0, 1) := by decide +kernel
theorem dX11_isStable_30 : decode cX11_isStable 30 = .ok (.istore_n 2, 1) := by decide +kernel
theorem dX11_isStable_31 : decode cX11_isStable 31 = .ok (.iinc 3 1, 3) := by decide +kernel
theorem dX11_isStable_34 : decode cX11_isStable 34 = .ok (.goto (-30), 3) := by decide +kernel
theorem dX11_isStable_37 : decode cX11_isStable 37 = .ok (.iload_n 2, 1) := by decide +kernel
theorem dX11_isStable_38 : decode cX11_isStable 38 = .ok (.ireturn, 1) := by decide +kernel
theorem dX11_isRecurrent_0 : decode cX11_isRecurrent 0 = .ok (.aload_n 0, 1) := by decide +kernel
theorem dX11_isRecurrent_1 : decode cX11_isRecurrent 1 = .ok (.aload_n 1, 1) := by decide +kernel
theorem dX11_isRecurrent_2 : decode cX11_isRecurrent 2 = .ok (.iconst 0, 1) := by decide +kernel
theorem dX11_isRecurrent_3 : decode cX11_isRecurrent 3 = .ok (.invokevirtual 152, 3) := by decide +kernel
theorem dX11_isRecurrent_6 : decode cX11_isRecurrent 6 = .ok (.aload_n 0, 1) := by decide +kernel
theorem dX11_isRecurrent_7 : decode cX11_isRecurrent 7 = .ok (.invokevirtual 156, 3) := by decide +kernel
theorem dX11_isRecurrent_10 : decode cX11_isRecurrent 10 = .ok (.ifCond .eq 22, 3) := by decide +kernel
theorem dX11_isRecurrent_13 : decode cX11_isRecurrent 13 = .ok (.aload_n 0, 1) := by decide +kernel
theorem dX11_isRecurrent_14 : decode cX11_isRecurrent 14 = .ok (.aload_n 1, 1) := by decide +kernel
theorem dX11_isRecurrent_15 : decode cX11_isRecurrent 15 = .ok (.invokevirtual 159, 3) := by decide +kernel
theorem dX11_isRecurrent_18 : decode cX11_isRecurrent 18 = .ok (.ifCond .eq 14, 3) := by decide +kernel
theorem dX11_isRecurrent_21 : decode cX11_isRecurrent 21 = .ok (.aload_n 0, 1) := by decide +kernel
theorem dX11_isRecurrent_22 : decode cX11_isRecurrent 22 = .ok (.invokevirtual 119, 3) := by decide +kernel
theorem dX11_isRecurrent_25 : decode cX11_isRecurrent 25 = .ok (.ifCond .eq 7, 3) := by decide +kernel
theorem dX11_isRecurrent_28 : decode cX11_isRecurrent 28 = .ok (.iconst 1, 1) := by decide +kernel
theorem dX11_isRecurrent_29 : decode cX11_isRecurrent 29 = .ok (.goto 4, 3) := by decide +kernel
theorem dX11_isRecurrent_32 : decode cX11_isRecurrent 32 = .ok (.iconst 0, 1) := by decide +kernel
theorem dX11_isRecurrent_33 : decode cX11_isRecurrent 33 = .ok (.ireturn, 1) := by decide +kernel
theorem dX11_isSuperstable_0 : decode cX11_isSuperstable 0 = .ok (.aload_n 0, 1) := by decide +kernel
theorem dX11_isSuperstable_1 : decode cX11_isSuperstable 1 = .ok (.aload_n 1, 1) := by decide +kernel
theorem dX11_isSuperstable_2 : decode cX11_isSuperstable 2 = .ok (.iconst 1, 1) := by decide +kernel
theorem dX11_isSuperstable_3 : decode cX11_isSuperstable 3 = .ok (.invokevirtual 152, 3) := by decide +kernel
theorem dX11_isSuperstable_6 : decode cX11_isSuperstable 6 = .ok (.aload_n 0, 1) := by decide +kernel
theorem dX11_isSuperstable_7 : decode cX11_isSuperstable 7 = .ok (.invokevirtual 156, 3) := by decide +kernel
theorem dX11_isSuperstable_10 : decode cX11_isSuperstable 10 = .ok (.ifCond .eq 14, 3) := by decide +kernel
theorem dX11_isSuperstable_13 : decode cX11_isSuperstable 13 = .ok (.aload_n 0, 1) := by decide +kernel
theorem dX11_isSuperstable_14 : decode cX11_isSuperstable 14 = .ok (.invokevirtual 119, 3) := by decide +kernel
theorem dX11_isSuperstable_17 : decode cX11_isSuperstable 17 = .ok (.ifCond .eq 7, 3) := by decide +kernel
theorem dX11_isSuperstable_20 : decode cX11_isSuperstable 20 = .ok (.iconst 1, 1) := by decide +kernel
theorem dX11_isSuperstable_21 : decode cX11_isSuperstable 21 = .ok (.goto 4, 3) := by decide +kernel
theorem dX11_isSuperstable_24 : decode cX11_isSuperstable 24 = .ok (.iconst 0, 1) := by decide +kernel
theorem dX11_isSuperstable_25 : decode cX11_isSuperstable 25 = .ok (.ireturn, 1) := by decide +kernel
theorem dX11_fireSet_0 : decode cX11_fireSet 0 = .ok (.iconst 0, 1) := by decide +kernel
theorem dX11_fireSet_1 : decode cX11_fireSet 1 = .ok (.istore_n 2, 1) := by decide +kernel
theorem dX11_fireSet_2 : decode cX11_fireSet 2 = .ok (.iload_n 2, 1) := by decide +kernel
theorem dX11_fireSet_3 : decode cX11_fireSet 3 = .ok (.aload_n 0, 1) := by decide +kernel
theorem dX11_fireSet_4 : decode cX11_fireSet 4 = .ok (.getfield 77, 3) := by decide +kernel
theorem dX11_fireSet_7 : decode cX11_fireSet 7 = .ok (.if_icmp .ge 89, 3) := by decide +kernel
theorem dX11_fireSet_10 : decode cX11_fireSet 10 = .ok (.iconst 0, 1) := by decide +kernel
theorem dX11_fireSet_11 : decode cX11_fireSet 11 = .ok (.istore_n 3, 1) := by decide +kernel
theorem dX11_fireSet_12 : decode cX11_fireSet 12 = .ok (.iload_n 3, 1) := by decide +kernel
theorem dX11_fireSet_13 : decode cX11_fireSet 13 = .ok (.aload_n 0, 1) := by decide +kernel
theorem dX11_fireSet_14 : decode cX11_fireSet 14 = .ok (.getfield 77, 3) := by decide +kernel
theorem dX11_fireSet_17 : decode cX11_fireSet 17 = .ok (.if_icmp .ge 73, 3) := by decide +kernel
theorem dX11_fireSet_20 : decode cX11_fireSet 20 = .ok (.aload_n 0, 1) := by decide +kernel
theorem dX11_fireSet_21 : decode cX11_fireSet 21 = .ok (.getfield 29, 3) := by decide +kernel
theorem dX11_fireSet_24 : decode cX11_fireSet 24 = .ok (.iload_n 2, 1) := by decide +kernel
theorem dX11_fireSet_25 : decode cX11_fireSet 25 = .ok (.iaload, 1) := by decide +kernel
theorem dX11_fireSet_26 : decode cX11_fireSet 26 = .ok (.ifCond .ge 64, 3) := by decide +kernel
theorem dX11_fireSet_29 : decode cX11_fireSet 29 = .ok (.aload_n 0, 1) := by decide +kernel
theorem dX11_fireSet_30 : decode cX11_fireSet 30 = .ok (.getfield 29, 3) := by decide +kernel
theorem dX11_fireSet_33 : decode cX11_fireSet 33 = .ok (.iload_n 3, 1) := by decide +kernel
theorem dX11_fireSet_34 : decode cX11_fireSet 34 = .ok (.iaload, 1) := by decide +kernel
theorem dX11_fireSet_35 : decode cX11_fireSet 35 = .ok (.ifCond .lt 49, 3) := by decide +kernel
theorem dX11_fireSet_38 : decode cX11_fireSet 38 = .ok (.aload_n 1, 1) := by decide +kernel
theorem dX11_fireSet_39 : decode cX11_fireSet 39 = .ok (.iload_n 2, 1) := by decide +kernel
theorem dX11_fireSet_40 : decode cX11_fireSet 40 = .ok (.dup2, 1) := by decide +kernel
theorem dX11_fireSet_41 : decode cX11_fireSet 41 = .ok (.iaload, 1) := by decide +kernel
theorem dX11_fireSet_42 : decode cX11_fireSet 42 = .ok (.aload_n 0, 1) := by decide +kernel
theorem dX11_fireSet_43 : decode cX11_fireSet 43 = .ok (.getfield 16, 3) := by decide +kernel
theorem dX11_fireSet_46 : decode cX11_fireSet 46 = .ok (.bipush 8, 2) := by decide +kernel
theorem dX11_fireSet_48 : decode cX11_fireSet 48 = .ok (.iload_n 2, 1) := by decide +kernel
theorem dX11_fireSet_49 : decode cX11_fireSet 49 = .ok (.imul, 1) := by decide +kernel
theorem dX11_fireSet_50 : decode cX11_fireSet 50 = .ok (.iload_n 3, 1) := by decide +kernel
theorem dX11_fireSet_51 : decode cX11_fireSet 51 = .ok (.iadd, 1) := by decide +kernel
theorem dX11_fireSet_52 : decode cX11_fireSet 52 = .ok (.iaload, 1) := by decide +kernel
theorem dX11_fireSet_53 : decode cX11_fireSet 53 = .ok (.isub, 1) := by decide +kernel
theorem dX11_fireSet_54 : decode cX11_fireSet 54 = .ok (.iastore, 1) := by decide +kernel
theorem dX11_fireSet_55 : decode cX11_fireSet 55 = .ok (.aload_n 1, 1) := by decide +kernel
theorem dX11_fireSet_56 : decode cX11_fireSet 56 = .ok (.iload_n 3, 1) := by decide +kernel
theorem dX11_fireSet_57 : decode cX11_fireSet 57 = .ok (.dup2, 1) := by decide +kernel
theorem dX11_fireSet_58 : decode cX11_fireSet 58 = .ok (.iaload, 1) := by decide +kernel
theorem dX11_fireSet_59 : decode cX11_fireSet 59 = .ok (.iload_n 3, 1) := by decide +kernel
theorem dX11_fireSet_60 : decode cX11_fireSet 60 = .ok (.aload_n 0, 1) := by decide +kernel
theorem dX11_fireSet_61 : decode cX11_fireSet 61 = .ok (.getfield 84, 3) := by decide +kernel
theorem dX11_fireSet_64 : decode cX11_fireSet 64 = .ok (.if_icmp .ne 7, 3) := by decide +kernel
theorem dX11_fireSet_67 : decode cX11_fireSet 67 = .ok (.iconst 0, 1) := by decide +kernel
theorem dX11_fireSet_68 : decode cX11_fireSet 68 = .ok (.goto 14, 3) := by decide +kernel
theorem dX11_fireSet_71 : decode cX11_fireSet 71 = .ok (.aload_n 0, 1) := by decide +kernel
theorem dX11_fireSet_72 : decode cX11_fireSet 72 = .ok (.getfield 16, 3) := by decide +kernel
theorem dX11_fireSet_75 : decode cX11_fireSet 75 = .ok (.bipush 8, 2) := by decide +kernel
theorem dX11_fireSet_77 : decode cX11_fireSet 77 = .ok (.iload_n 2, 1) := by decide +kernel
theorem dX11_fireSet_78 : decode cX11_fireSet 78 = .ok (.imul, 1) := by decide +kernel
theorem dX11_fireSet_79 : decode cX11_fireSet 79 = .ok (.iload_n 3, 1) := by decide +kernel
theorem dX11_fireSet_80 : decode cX11_fireSet 80 = .ok (.iadd, 1) := by decide +kernel
theorem dX11_fireSet_81 : decode cX11_fireSet 81 = .ok (.iaload, 1) := by decide +kernel
theorem dX11_fireSet_82 : decode cX11_fireSet 82 = .ok (.iadd, 1) := by decide +kernel
theorem dX11_fireSet_83 : decode cX11_fireSet 83 = .ok (.iastore, 1) := by decide +kernel
theorem dX11_fireSet_84 : decode cX11_fireSet 84 = .ok (.iinc 3 1, 3) := by decide +kernel
theorem dX11_fireSet_87 : decode cX11_fireSet 87 = .ok (.goto (-75), 3) := by decide +kernel
theorem dX11_fireSet_90 : decode cX11_fireSet 90 = .ok (.iinc 2 1, 3) := by decide +kernel
theorem dX11_fireSet_93 : decode cX11_fireSet 93 = .ok (.goto (-91), 3) := by decide +kernel
theorem dX11_fireSet_96 : decode cX11_fireSet 96 = .ok (.return_, 1) := by decide +kernel
theorem dX11_lower_0 : decode cX11_lower 0 = .ok (.aload_n 0, 1) := by decide +kernel
theorem dX11_lower_1 : decode cX11_lower 1 = .ok (.aload_n 1, 1) := by decide +kernel
theorem dX11_lower_2 : decode cX11_lower 2 = .ok (.invokevirtual 144, 3) := by decide +kernel
theorem dX11_lower_5 : decode cX11_lower 5 = .ok (.pop, 1) := by decide +kernel
theorem dX11_lower_6 : decode cX11_lower 6 = .ok (.iconst 0, 1) := by decide +kernel
theorem dX11_lower_7 : decode cX11_lower 7 = .ok (.istore_n 2, 1) := by decide +kernel
theorem dX11_lower_8 : decode cX11_lower 8 = .ok (.aload_n 0, 1) := by decide +kernel
theorem dX11_lower_9 : decode cX11_lower 9 = .ok (.aload_n 1, 1) := by decide +kernel
theorem dX11_lower_10 : decode cX11_lower 10 = .ok (.iconst 1, 1) := by decide +kernel
theorem dX11_lower_11 : decode cX11_lower 11 = .ok (.invokevirtual 152, 3) := by decide +kernel
theorem dX11_lower_14 : decode cX11_lower 14 = .ok (.aload_n 0, 1) := by decide +kernel
theorem dX11_lower_15 : decode cX11_lower 15 = .ok (.invokevirtual 156, 3) := by decide +kernel
theorem dX11_lower_18 : decode cX11_lower 18 = .ok (.ifCond .ne 20, 3) := by decide +kernel
theorem dX11_lower_21 : decode cX11_lower 21 = .ok (.aload_n 0, 1) := by decide +kernel
theorem dX11_lower_22 : decode cX11_lower 22 = .ok (.aload_n 1, 1) := by decide +kernel
theorem dX11_lower_23 : decode cX11_lower 23 = .ok (.invokevirtual 163, 3) := by decide +kernel
theorem dX11_lower_26 : decode cX11_lower 26 = .ok (.iinc 2 1, 3) := by decide +kernel
theorem dX11_lower_29 : decode cX11_lower 29 = .ok (.aload_n 0, 1) := by decide +kernel
theorem dX11_lower_30 : decode cX11_lower 30 = .ok (.aload_n 1, 1) := by decide +kernel
theorem dX11_lower_31 : decode cX11_lower 31 = .ok (.iconst 1, 1) := by decide +kernel
theorem dX11_lower_32 : decode cX11_lower 32 = .ok (.invokevirtual 152, 3) := by decide +kernel
theorem dX11_lower_35 : decode cX11_lower 35 = .ok (.goto (-21), 3) := by decide +kernel
theorem dX11_lower_38 : decode cX11_lower 38 = .ok (.iload_n 2, 1) := by decide +kernel
theorem dX11_lower_39 : decode cX11_lower 39 = .ok (.ireturn, 1) := by decide +kernel
theorem dX11_raise_0 : decode cX11_raise 0 = .ok (.iconst 0, 1) := by decide +kernel
theorem dX11_raise_1 : decode cX11_raise 1 = .ok (.istore_n 2, 1) := by decide +kernel
theorem dX11_raise_2 : decode cX11_raise 2 = .ok (.iload_n 2, 1) := by decide +kernel
theorem dX11_raise_3 : decode cX11_raise 3 = .ok (.bipush 8, 2) := by decide +kernel
theorem dX11_raise_5 : decode cX11_raise 5 = .ok (.if_icmp .ge 45, 3) := by decide +kernel
theorem dX11_raise_8 : decode cX11_raise 8 = .ok (.aload_n 0, 1) := by decide +kernel
theorem dX11_raise_9 : decode cX11_raise 9 = .ok (.getfield 51, 3) := by decide +kernel
theorem dX11_raise_12 : decode cX11_raise 12 = .ok (.iload_n 2, 1) := by decide +kernel
theorem dX11_raise_13 : decode cX11_raise 13 = .ok (.iload_n 2, 1) := by decide +kernel
theorem dX11_raise_14 : decode cX11_raise 14 = .ok (.aload_n 0, 1) := by decide +kernel
theorem dX11_raise_15 : decode cX11_raise 15 = .ok (.getfield 84, 3) := by decide +kernel
theorem dX11_raise_18 : decode cX11_raise 18 = .ok (.if_icmp .eq 11, 3) := by decide +kernel
theorem dX11_raise_21 : decode cX11_raise 21 = .ok (.iload_n 2, 1) := by decide +kernel
theorem dX11_raise_22 : decode cX11_raise 22 = .ok (.aload_n 0, 1) := by decide +kernel
theorem dX11_raise_23 : decode cX11_raise 23 = .ok (.getfield 77, 3) := by decide +kernel
theorem dX11_raise_26 : decode cX11_raise 26 = .ok (.if_icmp .lt 7, 3) := by decide +kernel
theorem dX11_raise_29 : decode cX11_raise 29 = .ok (.iconst 0, 1) := by decide +kernel
theorem dX11_raise_30 : decode cX11_raise 30 = .ok (.goto 13, 3) := by decide +kernel
theorem dX11_raise_33 : decode cX11_raise 33 = .ok (.iconst 2, 1) := by decide +kernel
theorem dX11_raise_34 : decode cX11_raise 34 = .ok (.aload_n 0, 1) := by decide +kernel
theorem dX11_raise_35 : decode cX11_raise 35 = .ok (.getfield 19, 3) := by decide +kernel
theorem dX11_raise_38 : decode cX11_raise 38 = .ok (.iload_n 2, 1) := by decide +kernel
theorem dX11_raise_39 : decode cX11_raise 39 = .ok (.iaload, 1) := by decide +kernel
theorem dX11_raise_40 : decode cX11_raise 40 = .ok (.iconst 1, 1) := by decide +kernel
theorem dX11_raise_41 : decode cX11_raise 41 = .ok (.isub, 1) := by decide +kernel
theorem dX11_raise_42 : decode cX11_raise 42 = .ok (.imul, 1) := by decide +kernel
theorem dX11_raise_43 : decode cX11_raise 43 = .ok (.iastore, 1) := by decide +kernel
theorem dX11_raise_44 : decode cX11_raise 44 = .ok (.iinc 2 1, 3) := by decide +kernel
theorem dX11_raise_47 : decode cX11_raise 47 = .ok (.goto (-45), 3) := by decide +kernel
theorem dX11_raise_50 : decode cX11_raise 50 = .ok (.aload_n 0, 1) := by decide +kernel
theorem dX11_raise_51 : decode cX11_raise 51 = .ok (.aload_n 0, 1) := by decide +kernel
theorem dX11_raise_52 : decode cX11_raise 52 = .ok (.getfield 51, 3) := by decide +kernel
theorem dX11_raise_55 : decode cX11_raise 55 = .ok (.aload_n 0, 1) := by decide +kernel
theorem dX11_raise_56 : decode cX11_raise 56 = .ok (.getfield 48, 3) := by decide +kernel
theorem dX11_raise_59 : decode cX11_raise 59 = .ok (.invokevirtual 148, 3) := by decide +kernel
theorem dX11_raise_62 : decode cX11_raise 62 = .ok (.aload_n 0, 1) := by decide +kernel
theorem dX11_raise_63 : decode cX11_raise 63 = .ok (.aload_n 0, 1) := by decide +kernel
theorem dX11_raise_64 : decode cX11_raise 64 = .ok (.getfield 51, 3) := by decide +kernel
theorem dX11_raise_67 : decode cX11_raise 67 = .ok (.invokevirtual 144, 3) := by decide +kernel
theorem dX11_raise_70 : decode cX11_raise 70 = .ok (.pop, 1) := by decide +kernel
theorem dX11_raise_71 : decode cX11_raise 71 = .ok (.aload_n 0, 1) := by decide +kernel
theorem dX11_raise_72 : decode cX11_raise 72 = .ok (.aload_n 1, 1) := by decide +kernel
theorem dX11_raise_73 : decode cX11_raise 73 = .ok (.invokevirtual 144, 3) := by decide +kernel
theorem dX11_raise_76 : decode cX11_raise 76 = .ok (.pop, 1) := by decide +kernel
theorem dX11_raise_77 : decode cX11_raise 77 = .ok (.iconst 0, 1) := by decide +kernel
theorem dX11_raise_78 : decode cX11_raise 78 = .ok (.istore_n 2, 1) := by decide +kernel
theorem dX11_raise_79 : decode cX11_raise 79 = .ok (.iload_n 2, 1) := by decide +kernel
theorem dX11_raise_80 : decode cX11_raise 80 = .ok (.bipush 8, 2) := by decide +kernel
theorem dX11_raise_82 : decode cX11_raise 82 = .ok (.if_icmp .ge 28, 3) := by decide +kernel
theorem dX11_raise_85 : decode cX11_raise 85 = .ok (.aload_n 1, 1) := by decide +kernel
theorem dX11_raise_86 : decode cX11_raise 86 = .ok (.iload_n 2, 1) := by decide +kernel
theorem dX11_raise_87 : decode cX11_raise 87 = .ok (.dup2, 1) := by decide +kernel
theorem dX11_raise_88 : decode cX11_raise 88 = .ok (.iaload, 1) := by decide +kernel
theorem dX11_raise_89 : decode cX11_raise 89 = .ok (.aload_n 0, 1) := by decide +kernel
theorem dX11_raise_90 : decode cX11_raise 90 = .ok (.getfield 48, 3) := by decide +kernel
theorem dX11_raise_93 : decode cX11_raise 93 = .ok (.iload_n 2, 1) := by decide +kernel
theorem dX11_raise_94 : decode cX11_raise 94 = .ok (.iaload, 1) := by decide +kernel
theorem dX11_raise_95 : decode cX11_raise 95 = .ok (.aload_n 0, 1) := by decide +kernel
theorem dX11_raise_96 : decode cX11_raise 96 = .ok (.getfield 51, 3) := by decide +kernel
theorem dX11_raise_99 : decode cX11_raise 99 = .ok (.iload_n 2, 1) := by decide +kernel
theorem dX11_raise_100 : decode cX11_raise 100 = .ok (.iaload, 1) := by decide +kernel
theorem dX11_raise_101 : decode cX11_raise 101 = .ok (.isub, 1) := by decide +kernel
theorem dX11_raise_102 : decode cX11_raise 102 = .ok (.iadd, 1) := by decide +kernel
theorem dX11_raise_103 : decode cX11_raise 103 = .ok (.iastore, 1) := by decide +kernel
theorem dX11_raise_104 : decode cX11_raise 104 = .ok (.iinc 2 1, 3) := by decide +kernel
theorem dX11_raise_107 : decode cX11_raise 107 = .ok (.goto (-28), 3) := by decide +kernel
theorem dX11_raise_110 : decode cX11_raise 110 = .ok (.aload_n 0, 1) := by decide +kernel
theorem dX11_raise_111 : decode cX11_raise 111 = .ok (.aload_n 1, 1) := by decide +kernel
theorem dX11_raise_112 : decode cX11_raise 112 = .ok (.invokevirtual 144, 3) := by decide +kernel
theorem dX11_raise_115 : decode cX11_raise 115 = .ok (.pop, 1) := by decide +kernel
theorem dX11_raise_116 : decode cX11_raise 116 = .ok (.return_, 1) := by decide +kernel
theorem dX11_reduce_0 : decode cX11_reduce 0 = .ok (.aload_n 0, 1) := by decide +kernel
theorem dX11_reduce_1 : decode cX11_reduce 1 = .ok (.invokevirtual 119, 3) := by decide +kernel
theorem dX11_reduce_4 : decode cX11_reduce 4 = .ok (.ifCond .ne 7, 3) := by decide +kernel
theorem dX11_reduce_7 : decode cX11_reduce 7 = .ok (.sipush (-10003), 3) := by decide +kernel
theorem dX11_reduce_10 : decode cX11_reduce 10 = .ok (.ireturn, 1) := by decide +kernel
theorem dX11_reduce_11 : decode cX11_reduce 11 = .ok (.aload_n 0, 1) := by decide +kernel
theorem dX11_reduce_12 : decode cX11_reduce 12 = .ok (.invokevirtual 133, 3) := by decide +kernel
theorem dX11_reduce_15 : decode cX11_reduce 15 = .ok (.aload_n 0, 1) := by decide +kernel
theorem dX11_reduce_16 : decode cX11_reduce 16 = .ok (.aload_n 0, 1) := by decide +kernel
theorem dX11_reduce_17 : decode cX11_reduce 17 = .ok (.getfield 22, 3) := by decide +kernel
theorem dX11_reduce_20 : decode cX11_reduce 20 = .ok (.invokevirtual 167, 3) := by decide +kernel
theorem dX11_reduce_23 : decode cX11_reduce 23 = .ok (.ireturn, 1) := by decide +kernel
theorem dX11_areSame_0 : decode cX11_areSame 0 = .ok (.iconst 1, 1) := by decide +kernel
theorem dX11_areSame_1 : decode cX11_areSame 1 = .ok (.istore_n 2, 1) := by decide +kernel
theorem dX11_areSame_2 : decode cX11_areSame 2 = .ok (.iconst 0, 1) := by decide +kernel
theorem dX11_areSame_3 : decode cX11_areSame 3 = .ok (.istore_n 3, 1) := by decide +kernel
theorem dX11_areSame_4 : decode cX11_areSame 4 = .ok (.iload_n 3, 1) := by decide +kernel
theorem dX11_areSame_5 : decode cX11_areSame 5 = .ok (.bipush 8, 2) := by decide +kernel
theorem dX11_areSame_7 : decode cX11_areSame 7 = .ok (.if_icmp .ge 28, 3) := by decide +kernel
theorem dX11_areSame_10 : decode cX11_areSame 10 = .ok (.iload_n 2, 1) := by decide +kernel
theorem dX11_areSame_11 : decode cX11_areSame 11 = .ok (.ifCond .eq 16, 3) := by decide +kernel
theorem dX11_areSame_14 : decode cX11_areSame 14 = .ok (.aload_n 0, 1) := by decide +kernel
theorem dX11_areSame_15 : decode cX11_areSame 15 = .ok (.iload_n 3, 1) := by decide +kernel
theorem dX11_areSame_16 : decode cX11_areSame 16 = .ok (.iaload, 1) := by decide +kernel
theorem dX11_areSame_17 : decode cX11_areSame 17 = .ok (.aload_n 1, 1) := by decide +kernel
theorem dX11_areSame_18 : decode cX11_areSame 18 = .ok (.iload_n 3, 1) := by decide +kernel
theorem dX11_areSame_19 : decode cX11_areSame 19 = .ok (.iaload, 1) := by decide +kernel
theorem dX11_areSame_20 : decode cX11_areSame 20 = .ok (.if_icmp .ne 7, 3) := by decide +kernel
theorem dX11_areSame_23 : decode cX11_areSame 23 = .ok (.iconst 1, 1) := by decide +kernel
theorem dX11_areSame_24 : decode cX11_areSame 24 = .ok (.goto 4, 3) := by decide +kernel
theorem dX11_areSame_27 : decode cX11_areSame 27 = .ok (.iconst 0, 1) := by decide +kernel
theorem dX11_areSame_28 : decode cX11_areSame 28 = .ok (.istore_n 2, 1) := by decide +kernel
theorem dX11_areSame_29 : decode cX11_areSame 29 = .ok (.iinc 3 1, 3) := by decide +kernel
theorem dX11_areSame_32 : decode cX11_areSame 32 = .ok (.goto (-28), 3) := by decide +kernel
theorem dX11_areSame_35 : decode cX11_areSame 35 = .ok (.iload_n 2, 1) := by decide +kernel
theorem dX11_areSame_36 : decode cX11_areSame 36 = .ok (.ireturn, 1) := by decide +kernel
theorem dX11_makeRecurrent_0 : decode cX11_makeRecurrent 0 = .ok (.aload_n 0, 1) := by decide +kernel
theorem dX11_makeRecurrent_1 : decode cX11_makeRecurrent 1 = .ok (.invokevirtual 119, 3) := by decide +kernel
theorem dX11_makeRecurrent_4 : decode cX11_makeRecurrent 4 = .ok (.ifCond .ne 7, 3) := by decide +kernel
theorem dX11_makeRecurrent_7 : decode cX11_makeRecurrent 7 = .ok (.sipush (-10003), 3) := by decide +kernel
theorem dX11_makeRecurrent_10 : decode cX11_makeRecurrent 10 = .ok (.ireturn, 1) := by decide +kernel
theorem dX11_makeRecurrent_11 : decode cX11_makeRecurrent 11 = .ok (.aload_n 0, 1) := by decide +kernel
theorem dX11_makeRecurrent_12 : decode cX11_makeRecurrent 12 = .ok (.invokevirtual 133, 3) := by decide +kernel
theorem dX11_makeRecurrent_15 : decode cX11_makeRecurrent 15 = .ok (.aload_n 0, 1) := by decide +kernel
theorem dX11_makeRecurrent_16 : decode cX11_makeRecurrent 16 = .ok (.aload_n 0, 1) := by decide +kernel
theorem dX11_makeRecurrent_17 : decode cX11_makeRecurrent 17 = .ok (.getfield 22, 3) := by decide +kernel
theorem dX11_makeRecurrent_20 : decode cX11_makeRecurrent 20 = .ok (.aload_n 0, 1) := by decide +kernel
theorem dX11_makeRecurrent_21 : decode cX11_makeRecurrent 21 = .ok (.getfield 45, 3) := by decide +kernel
theorem dX11_makeRecurrent_24 : decode cX11_makeRecurrent 24 = .ok (.invokevirtual 148, 3) := by decide +kernel
theorem dX11_makeRecurrent_27 : decode cX11_makeRecurrent 27 = .ok (.aload_n 0, 1) := by decide +kernel
theorem dX11_makeRecurrent_28 : decode cX11_makeRecurrent 28 = .ok (.aload_n 0, 1) := by decide +kernel
theorem dX11_makeRecurrent_29 : decode cX11_makeRecurrent 29 = .ok (.getfield 22, 3) := by decide +kernel
theorem dX11_makeRecurrent_32 : decode cX11_makeRecurrent 32 = .ok (.invokevirtual 170, 3) := by decide +kernel
theorem dX11_makeRecurrent_35 : decode cX11_makeRecurrent 35 = .ok (.aload_n 0, 1) := by decide +kernel
theorem dX11_makeRecurrent_36 : decode cX11_makeRecurrent 36 = .ok (.getfield 22, 3) := by decide +kernel
theorem dX11_makeRecurrent_39 : decode cX11_makeRecurrent 39 = .ok (.aload_n 0, 1) := by decide +kernel
theorem dX11_makeRecurrent_40 : decode cX11_makeRecurrent 40 = .ok (.getfield 45, 3) := by decide +kernel
theorem dX11_makeRecurrent_43 : decode cX11_makeRecurrent 43 = .ok (.invokestatic 173, 3) := by decide +kernel
theorem dX11_makeRecurrent_46 : decode cX11_makeRecurrent 46 = .ok (.ifCond .eq 7, 3) := by decide +kernel
theorem dX11_makeRecurrent_49 : decode cX11_makeRecurrent 49 = .ok (.iconst 0, 1) := by decide +kernel
theorem dX11_makeRecurrent_50 : decode cX11_makeRecurrent 50 = .ok (.goto 4, 3) := by decide +kernel
theorem dX11_makeRecurrent_53 : decode cX11_makeRecurrent 53 = .ok (.iconst 1, 1) := by decide +kernel
theorem dX11_makeRecurrent_54 : decode cX11_makeRecurrent 54 = .ok (.ireturn, 1) := by decide +kernel
theorem dX11_kind_0 : decode cX11_kind 0 = .ok (.aload_n 0, 1) := by decide +kernel
theorem dX11_kind_1 : decode cX11_kind 1 = .ok (.aload_n 0, 1) := by decide +kernel
theorem dX11_kind_2 : decode cX11_kind 2 = .ok (.getfield 22, 3) := by decide +kernel
theorem dX11_kind_5 : decode cX11_kind 5 = .ok (.invokevirtual 159, 3) := by decide +kernel
theorem dX11_kind_8 : decode cX11_kind 8 = .ok (.ifCond .eq 7, 3) := by decide +kernel
theorem dX11_kind_11 : decode cX11_kind 11 = .ok (.iconst 1, 1) := by decide +kernel
theorem dX11_kind_12 : decode cX11_kind 12 = .ok (.goto 4, 3) := by decide +kernel
theorem dX11_kind_15 : decode cX11_kind 15 = .ok (.iconst 0, 1) := by decide +kernel
theorem dX11_kind_16 : decode cX11_kind 16 = .ok (.aload_n 0, 1) := by decide +kernel
theorem dX11_kind_17 : decode cX11_kind 17 = .ok (.aload_n 0, 1) := by decide +kernel
theorem dX11_kind_18 : decode cX11_kind 18 = .ok (.getfield 22, 3) := by decide +kernel
theorem dX11_kind_21 : decode cX11_kind 21 = .ok (.invokevirtual 177, 3) := by decide +kernel
theorem dX11_kind_24 : decode cX11_kind 24 = .ok (.ifCond .eq 7, 3) := by decide +kernel
theorem dX11_kind_27 : decode cX11_kind 27 = .ok (.iconst 2, 1) := by decide +kernel
theorem dX11_kind_28 : decode cX11_kind 28 = .ok (.goto 4, 3) := by decide +kernel
theorem dX11_kind_31 : decode cX11_kind 31 = .ok (.iconst 0, 1) := by decide +kernel
theorem dX11_kind_32 : decode cX11_kind 32 = .ok (.iadd, 1) := by decide +kernel
theorem dX11_kind_33 : decode cX11_kind 33 = .ok (.aload_n 0, 1) := by decide +kernel
theorem dX11_kind_34 : decode cX11_kind 34 = .ok (.aload_n 0, 1) := by decide +kernel
theorem dX11_kind_35 : decode cX11_kind 35 = .ok (.getfield 22, 3) := by decide +kernel
theorem dX11_kind_38 : decode cX11_kind 38 = .ok (.invokevirtual 180, 3) := by decide +kernel
theorem dX11_kind_41 : decode cX11_kind 41 = .ok (.ifCond .eq 7, 3) := by decide +kernel
theorem dX11_kind_44 : decode cX11_kind 44 = .ok (.iconst 4, 1) := by decide +kernel
theorem dX11_kind_45 : decode cX11_kind 45 = .ok (.goto 4, 3) := by decide +kernel
theorem dX11_kind_48 : decode cX11_kind 48 = .ok (.iconst 0, 1) := by decide +kernel
theorem dX11_kind_49 : decode cX11_kind 49 = .ok (.iadd, 1) := by decide +kernel
theorem dX11_kind_50 : decode cX11_kind 50 = .ok (.ireturn, 1) := by decide +kernel
theorem dX11_burnt_0 : decode cX11_burnt 0 = .ok (.aload_n 0, 1) := by decide +kernel
theorem dX11_burnt_1 : decode cX11_burnt 1 = .ok (.iload_n 1, 1) := by decide +kernel
theorem dX11_burnt_2 : decode cX11_burnt 2 = .ok (.invokevirtual 101, 3) := by decide +kernel
theorem dX11_burnt_5 : decode cX11_burnt 5 = .ok (.ifCond .ne 7, 3) := by decide +kernel
theorem dX11_burnt_8 : decode cX11_burnt 8 = .ok (.sipush (-10001), 3) := by decide +kernel
theorem dX11_burnt_11 : decode cX11_burnt 11 = .ok (.ireturn, 1) := by decide +kernel
theorem dX11_burnt_12 : decode cX11_burnt 12 = .ok (.aload_n 0, 1) := by decide +kernel
theorem dX11_burnt_13 : decode cX11_burnt 13 = .ok (.aload_n 0, 1) := by decide +kernel
theorem dX11_burnt_14 : decode cX11_burnt 14 = .ok (.getfield 22, 3) := by decide +kernel
theorem dX11_burnt_17 : decode cX11_burnt 17 = .ok (.iconst 0, 1) := by decide +kernel
theorem dX11_burnt_18 : decode cX11_burnt 18 = .ok (.invokevirtual 152, 3) := by decide +kernel
theorem dX11_burnt_21 : decode cX11_burnt 21 = .ok (.aload_n 0, 1) := by decide +kernel
theorem dX11_burnt_22 : decode cX11_burnt 22 = .ok (.getfield 29, 3) := by decide +kernel
theorem dX11_burnt_25 : decode cX11_burnt 25 = .ok (.iload_n 1, 1) := by decide +kernel
theorem dX11_burnt_26 : decode cX11_burnt 26 = .ok (.iaload, 1) := by decide +kernel
theorem dX11_burnt_27 : decode cX11_burnt 27 = .ok (.ifCond .ge 9, 3) := by decide +kernel
theorem dX11_burnt_30 : decode cX11_burnt 30 = .ok (.sipush (-10007), 3) := by decide +kernel
theorem dX11_burnt_33 : decode cX11_burnt 33 = .ok (.goto 9, 3) := by decide +kernel
theorem dX11_burnt_36 : decode cX11_burnt 36 = .ok (.aload_n 0, 1) := by decide +kernel
theorem dX11_burnt_37 : decode cX11_burnt 37 = .ok (.getfield 29, 3) := by decide +kernel
theorem dX11_burnt_40 : decode cX11_burnt 40 = .ok (.iload_n 1, 1) := by decide +kernel
theorem dX11_burnt_41 : decode cX11_burnt 41 = .ok (.iaload, 1) := by decide +kernel
theorem dX11_burnt_42 : decode cX11_burnt 42 = .ok (.ireturn, 1) := by decide +kernel
theorem dX11_noSlot_0 : decode cX11_noSlot 0 = .ok (.iload_n 0, 1) := by decide +kernel
theorem dX11_noSlot_1 : decode cX11_noSlot 1 = .ok (.iconst 0, 1) := by decide +kernel
theorem dX11_noSlot_2 : decode cX11_noSlot 2 = .ok (.iconst 2, 1) := by decide +kernel
theorem dX11_noSlot_3 : decode cX11_noSlot 3 = .ok (.invokestatic 97, 3) := by decide +kernel
theorem dX11_noSlot_6 : decode cX11_noSlot 6 = .ok (.ifCond .ne 7, 3) := by decide +kernel
theorem dX11_noSlot_9 : decode cX11_noSlot 9 = .ok (.iconst 1, 1) := by decide +kernel
theorem dX11_noSlot_10 : decode cX11_noSlot 10 = .ok (.goto 4, 3) := by decide +kernel
theorem dX11_noSlot_13 : decode cX11_noSlot 13 = .ok (.iconst 0, 1) := by decide +kernel
theorem dX11_noSlot_14 : decode cX11_noSlot 14 = .ok (.ireturn, 1) := by decide +kernel
theorem dX11_keep_0 : decode cX11_keep 0 = .ok (.iload_n 1, 1) := by decide +kernel
theorem dX11_keep_1 : decode cX11_keep 1 = .ok (.invokestatic 183, 3) := by decide +kernel
theorem dX11_keep_4 : decode cX11_keep 4 = .ok (.ifCond .eq 7, 3) := by decide +kernel
theorem dX11_keep_7 : decode cX11_keep 7 = .ok (.sipush (-10001), 3) := by decide +kernel
theorem dX11_keep_10 : decode cX11_keep 10 = .ok (.ireturn, 1) := by decide +kernel
theorem dX11_keep_11 : decode cX11_keep 11 = .ok (.aload_n 0, 1) := by decide +kernel
theorem dX11_keep_12 : decode cX11_keep 12 = .ok (.getfield 35, 3) := by decide +kernel
theorem dX11_keep_15 : decode cX11_keep 15 = .ok (.iload_n 1, 1) := by decide +kernel
theorem dX11_keep_16 : decode cX11_keep 16 = .ok (.baload, 1) := by decide +kernel
theorem dX11_keep_17 : decode cX11_keep 17 = .ok (.ifCond .eq 7, 3) := by decide +kernel
theorem dX11_keep_20 : decode cX11_keep 20 = .ok (.iconst 0, 1) := by decide +kernel
theorem dX11_keep_21 : decode cX11_keep 21 = .ok (.goto 4, 3) := by decide +kernel
theorem dX11_keep_24 : decode cX11_keep 24 = .ok (.iconst 1, 1) := by decide +kernel
theorem dX11_keep_25 : decode cX11_keep 25 = .ok (.istore_n 2, 1) := by decide +kernel
theorem dX11_keep_26 : decode cX11_keep 26 = .ok (.iconst 0, 1) := by decide +kernel
theorem dX11_keep_27 : decode cX11_keep 27 = .ok (.istore_n 3, 1) := by decide +kernel
theorem dX11_keep_28 : decode cX11_keep 28 = .ok (.iload_n 3, 1) := by decide +kernel
theorem dX11_keep_29 : decode cX11_keep 29 = .ok (.bipush 8, 2) := by decide +kernel
theorem dX11_keep_31 : decode cX11_keep 31 = .ok (.if_icmp .ge 26, 3) := by decide +kernel
theorem dX11_keep_34 : decode cX11_keep 34 = .ok (.aload_n 0, 1) := by decide +kernel
theorem dX11_keep_35 : decode cX11_keep 35 = .ok (.getfield 39, 3) := by decide +kernel
theorem dX11_keep_38 : decode cX11_keep 38 = .ok (.bipush 8, 2) := by decide +kernel
theorem dX11_keep_40 : decode cX11_keep 40 = .ok (.iload_n 1, 1) := by decide +kernel
theorem dX11_keep_41 : decode cX11_keep 41 = .ok (.imul, 1) := by decide +kernel
theorem dX11_keep_42 : decode cX11_keep 42 = .ok (.iload_n 3, 1) := by decide +kernel
theorem dX11_keep_43 : decode cX11_keep 43 = .ok (.iadd, 1) := by decide +kernel
theorem dX11_keep_44 : decode cX11_keep 44 = .ok (.aload_n 0, 1) := by decide +kernel
theorem dX11_keep_45 : decode cX11_keep 45 = .ok (.getfield 22, 3) := by decide +kernel
theorem dX11_keep_48 : decode cX11_keep 48 = .ok (.iload_n 3, 1) := by decide +kernel
theorem dX11_keep_49 : decode cX11_keep 49 = .ok (.iaload, 1) := by decide +kernel
theorem dX11_keep_50 : decode cX11_keep 50 = .ok (.iastore, 1) := by decide +kernel
theorem dX11_keep_51 : decode cX11_keep 51 = .ok (.iinc 3 1, 3) := by decide +kernel
theorem dX11_keep_54 : decode cX11_keep 54 = .ok (.goto (-26), 3) := by decide +kernel
theorem dX11_keep_57 : decode cX11_keep 57 = .ok (.aload_n 0, 1) := by decide +kernel
theorem dX11_keep_58 : decode cX11_keep 58 = .ok (.getfield 35, 3) := by decide +kernel
theorem dX11_keep_61 : decode cX11_keep 61 = .ok (.iload_n 1, 1) := by decide +kernel
theorem dX11_keep_62 : decode cX11_keep 62 = .ok (.iconst 1, 1) := by decide +kernel
theorem dX11_keep_63 : decode cX11_keep 63 = .ok (.bastore, 1) := by decide +kernel
theorem dX11_keep_64 : decode cX11_keep 64 = .ok (.iload_n 2, 1) := by decide +kernel
theorem dX11_keep_65 : decode cX11_keep 65 = .ok (.ireturn, 1) := by decide +kernel
theorem dX11_load_0 : decode cX11_load 0 = .ok (.iload_n 1, 1) := by decide +kernel
theorem dX11_load_1 : decode cX11_load 1 = .ok (.invokestatic 183, 3) := by decide +kernel
theorem dX11_load_4 : decode cX11_load 4 = .ok (.ifCond .eq 7, 3) := by decide +kernel
theorem dX11_load_7 : decode cX11_load 7 = .ok (.sipush (-10001), 3) := by decide +kernel
theorem dX11_load_10 : decode cX11_load 10 = .ok (.ireturn, 1) := by decide +kernel
theorem dX11_load_11 : decode cX11_load 11 = .ok (.aload_n 0, 1) := by decide +kernel
theorem dX11_load_12 : decode cX11_load 12 = .ok (.getfield 35, 3) := by decide +kernel
theorem dX11_load_15 : decode cX11_load 15 = .ok (.iload_n 1, 1) := by decide +kernel
theorem dX11_load_16 : decode cX11_load 16 = .ok (.baload, 1) := by decide +kernel
theorem dX11_load_17 : decode cX11_load 17 = .ok (.ifCond .ne 7, 3) := by decide +kernel
theorem dX11_load_20 : decode cX11_load 20 = .ok (.sipush (-10004), 3) := by decide +kernel
theorem dX11_load_23 : decode cX11_load 23 = .ok (.ireturn, 1) := by decide +kernel
theorem dX11_load_24 : decode cX11_load 24 = .ok (.aload_n 0, 1) := by decide +kernel
theorem dX11_load_25 : decode cX11_load 25 = .ok (.invokevirtual 133, 3) := by decide +kernel
theorem dX11_load_28 : decode cX11_load 28 = .ok (.iconst 0, 1) := by decide +kernel
theorem dX11_load_29 : decode cX11_load 29 = .ok (.istore_n 2, 1) := by decide +kernel
theorem dX11_load_30 : decode cX11_load 30 = .ok (.iload_n 2, 1) := by decide +kernel
theorem dX11_load_31 : decode cX11_load 31 = .ok (.bipush 8, 2) := by decide +kernel
theorem dX11_load_33 : decode cX11_load 33 = .ok (.if_icmp .ge 26, 3) := by decide +kernel
theorem dX11_load_36 : decode cX11_load 36 = .ok (.aload_n 0, 1) := by decide +kernel
theorem dX11_load_37 : decode cX11_load 37 = .ok (.getfield 22, 3) := by decide +kernel
theorem dX11_load_40 : decode cX11_load 40 = .ok (.iload_n 2, 1) := by decide +kernel
theorem dX11_load_41 : decode cX11_load 41 = .ok (.aload_n 0, 1) := by decide +kernel
theorem dX11_load_42 : decode cX11_load 42 = .ok (.getfield 39, 3) := by decide +kernel
theorem dX11_load_45 : decode cX11_load 45 = .ok (.bipush 8, 2) := by decide +kernel
theorem dX11_load_47 : decode cX11_load 47 = .ok (.iload_n 1, 1) := by decide +kernel
theorem dX11_load_48 : decode cX11_load 48 = .ok (.imul, 1) := by decide +kernel
theorem dX11_load_49 : decode cX11_load 49 = .ok (.iload_n 2, 1) := by decide +kernel
theorem dX11_load_50 : decode cX11_load 50 = .ok (.iadd, 1) := by decide +kernel
theorem dX11_load_51 : decode cX11_load 51 = .ok (.iaload, 1) := by decide +kernel
theorem dX11_load_52 : decode cX11_load 52 = .ok (.iastore, 1) := by decide +kernel
theorem dX11_load_53 : decode cX11_load 53 = .ok (.iinc 2 1, 3) := by decide +kernel
theorem dX11_load_56 : decode cX11_load 56 = .ok (.goto (-26), 3) := by decide +kernel
theorem dX11_load_59 : decode cX11_load 59 = .ok (.aload_n 0, 1) := by decide +kernel
theorem dX11_load_60 : decode cX11_load 60 = .ok (.invokevirtual 123, 3) := by decide +kernel
theorem dX11_load_63 : decode cX11_load 63 = .ok (.ireturn, 1) := by decide +kernel
theorem dX11_add_0 : decode cX11_add 0 = .ok (.iload_n 1, 1) := by decide +kernel
theorem dX11_add_1 : decode cX11_add 1 = .ok (.invokestatic 183, 3) := by decide +kernel
theorem dX11_add_4 : decode cX11_add 4 = .ok (.ifCond .eq 7, 3) := by decide +kernel
theorem dX11_add_7 : decode cX11_add 7 = .ok (.sipush (-10001), 3) := by decide +kernel
theorem dX11_add_10 : decode cX11_add 10 = .ok (.ireturn, 1) := by decide +kernel
theorem dX11_add_11 : decode cX11_add 11 = .ok (.aload_n 0, 1) := by decide +kernel
theorem dX11_add_12 : decode cX11_add 12 = .ok (.getfield 35, 3) := by decide +kernel
theorem dX11_add_15 : decode cX11_add 15 = .ok (.iload_n 1, 1) := by decide +kernel
theorem dX11_add_16 : decode cX11_add 16 = .ok (.baload, 1) := by decide +kernel
theorem dX11_add_17 : decode cX11_add 17 = .ok (.ifCond .ne 7, 3) := by decide +kernel
theorem dX11_add_20 : decode cX11_add 20 = .ok (.sipush (-10004), 3) := by decide +kernel
theorem dX11_add_23 : decode cX11_add 23 = .ok (.ireturn, 1) := by decide +kernel
theorem dX11_add_24 : decode cX11_add 24 = .ok (.iconst 0, 1) := by decide +kernel
theorem dX11_add_25 : decode cX11_add 25 = .ok (.istore_n 2, 1) := by decide +kernel
theorem dX11_add_26 : decode cX11_add 26 = .ok (.iload_n 2, 1) := by decide +kernel
theorem dX11_add_27 : decode cX11_add 27 = .ok (.aload_n 0, 1) := by decide +kernel
theorem dX11_add_28 : decode cX11_add 28 = .ok (.getfield 77, 3) := by decide +kernel
theorem dX11_add_31 : decode cX11_add 31 = .ok (.if_icmp .ge 37, 3) := by decide +kernel
theorem dX11_add_34 : decode cX11_add 34 = .ok (.aload_n 0, 1) := by decide +kernel
theorem dX11_add_35 : decode cX11_add 35 = .ok (.getfield 22, 3) := by decide +kernel
theorem dX11_add_38 : decode cX11_add 38 = .ok (.iload_n 2, 1) := by decide +kernel
theorem dX11_add_39 : decode cX11_add 39 = .ok (.iaload, 1) := by decide +kernel
theorem dX11_add_40 : decode cX11_add 40 = .ok (.aload_n 0, 1) := by decide +kernel
theorem dX11_add_41 : decode cX11_add 41 = .ok (.getfield 39, 3) := by decide +kernel
theorem dX11_add_44 : decode cX11_add 44 = .ok (.bipush 8, 2) := by decide +kernel
theorem dX11_add_46 : decode cX11_add 46 = .ok (.iload_n 1, 1) := by decide +kernel
theorem dX11_add_47 : decode cX11_add 47 = .ok (.imul, 1) := by decide +kernel
theorem dX11_add_48 : decode cX11_add 48 = .ok (.iload_n 2, 1) := by decide +kernel
theorem dX11_add_49 : decode cX11_add 49 = .ok (.iadd, 1) := by decide +kernel
theorem dX11_add_50 : decode cX11_add 50 = .ok (.iaload, 1) := by decide +kernel
theorem dX11_add_51 : decode cX11_add 51 = .ok (.iadd, 1) := by decide +kernel
theorem dX11_add_52 : decode cX11_add 52 = .ok (.sipush 2000, 3) := by decide +kernel
theorem dX11_add_55 : decode cX11_add 55 = .ok (.if_icmp .le 7, 3) := by decide +kernel
theorem dX11_add_58 : decode cX11_add 58 = .ok (.sipush (-10005), 3) := by decide +kernel
theorem dX11_add_61 : decode cX11_add 61 = .ok (.ireturn, 1) := by decide +kernel
theorem dX11_add_62 : decode cX11_add 62 = .ok (.iinc 2 1, 3) := by decide +kernel
theorem dX11_add_65 : decode cX11_add 65 = .ok (.goto (-39), 3) := by decide +kernel
theorem dX11_add_68 : decode cX11_add 68 = .ok (.aload_n 0, 1) := by decide +kernel
theorem dX11_add_69 : decode cX11_add 69 = .ok (.invokevirtual 133, 3) := by decide +kernel
theorem dX11_add_72 : decode cX11_add 72 = .ok (.iconst 0, 1) := by decide +kernel
theorem dX11_add_73 : decode cX11_add 73 = .ok (.istore_n 2, 1) := by decide +kernel
theorem dX11_add_74 : decode cX11_add 74 = .ok (.iload_n 2, 1) := by decide +kernel
theorem dX11_add_75 : decode cX11_add 75 = .ok (.aload_n 0, 1) := by decide +kernel
theorem dX11_add_76 : decode cX11_add 76 = .ok (.getfield 77, 3) := by decide +kernel
theorem dX11_add_79 : decode cX11_add 79 = .ok (.if_icmp .ge 29, 3) := by decide +kernel
theorem dX11_add_82 : decode cX11_add 82 = .ok (.aload_n 0, 1) := by decide +kernel
theorem dX11_add_83 : decode cX11_add 83 = .ok (.getfield 22, 3) := by decide +kernel
theorem dX11_add_86 : decode cX11_add 86 = .ok (.iload_n 2, 1) := by decide +kernel
theorem dX11_add_87 : decode cX11_add 87 = .ok (.dup2, 1) := by decide +kernel
theorem dX11_add_88 : decode cX11_add 88 = .ok (.iaload, 1) := by decide +kernel
theorem dX11_add_89 : decode cX11_add 89 = .ok (.aload_n 0, 1) := by decide +kernel
theorem dX11_add_90 : decode cX11_add 90 = .ok (.getfield 39, 3) := by decide +kernel
theorem dX11_add_93 : decode cX11_add 93 = .ok (.bipush 8, 2) := by decide +kernel
theorem dX11_add_95 : decode cX11_add 95 = .ok (.iload_n 1, 1) := by decide +kernel
theorem dX11_add_96 : decode cX11_add 96 = .ok (.imul, 1) := by decide +kernel
theorem dX11_add_97 : decode cX11_add 97 = .ok (.iload_n 2, 1) := by decide +kernel
theorem dX11_add_98 : decode cX11_add 98 = .ok (.iadd, 1) := by decide +kernel
theorem dX11_add_99 : decode cX11_add 99 = .ok (.iaload, 1) := by decide +kernel
theorem dX11_add_100 : decode cX11_add 100 = .ok (.iadd, 1) := by decide +kernel
theorem dX11_add_101 : decode cX11_add 101 = .ok (.iastore, 1) := by decide +kernel
theorem dX11_add_102 : decode cX11_add 102 = .ok (.iinc 2 1, 3) := by decide +kernel
theorem dX11_add_105 : decode cX11_add 105 = .ok (.goto (-31), 3) := by decide +kernel
theorem dX11_add_108 : decode cX11_add 108 = .ok (.aload_n 0, 1) := by decide +kernel
theorem dX11_add_109 : decode cX11_add 109 = .ok (.invokevirtual 123, 3) := by decide +kernel
theorem dX11_add_112 : decode cX11_add 112 = .ok (.ireturn, 1) := by decide +kernel
theorem dX11_isSameClass_0 : decode cX11_isSameClass 0 = .ok (.iload_n 1, 1) := by decide +kernel
theorem dX11_isSameClass_1 : decode cX11_isSameClass 1 = .ok (.invokestatic 183, 3) := by decide +kernel
theorem dX11_isSameClass_4 : decode cX11_isSameClass 4 = .ok (.ifCond .eq 7, 3) := by decide +kernel
theorem dX11_isSameClass_7 : decode cX11_isSameClass 7 = .ok (.sipush (-10001), 3) := by decide +kernel
theorem dX11_isSameClass_10 : decode cX11_isSameClass 10 = .ok (.ireturn, 1) := by decide +kernel
theorem dX11_isSameClass_11 : decode cX11_isSameClass 11 = .ok (.aload_n 0, 1) := by decide +kernel
theorem dX11_isSameClass_12 : decode cX11_isSameClass 12 = .ok (.getfield 35, 3) := by decide +kernel
theorem dX11_isSameClass_15 : decode cX11_isSameClass 15 = .ok (.iload_n 1, 1) := by decide +kernel
theorem dX11_isSameClass_16 : decode cX11_isSameClass 16 = .ok (.baload, 1) := by decide +kernel
theorem dX11_isSameClass_17 : decode cX11_isSameClass 17 = .ok (.ifCond .ne 7, 3) := by decide +kernel
theorem dX11_isSameClass_20 : decode cX11_isSameClass 20 = .ok (.sipush (-10004), 3) := by decide +kernel
theorem dX11_isSameClass_23 : decode cX11_isSameClass 23 = .ok (.ireturn, 1) := by decide +kernel
theorem dX11_isSameClass_24 : decode cX11_isSameClass 24 = .ok (.aload_n 0, 1) := by decide +kernel
theorem dX11_isSameClass_25 : decode cX11_isSameClass 25 = .ok (.invokevirtual 119, 3) := by decide +kernel
theorem dX11_isSameClass_28 : decode cX11_isSameClass 28 = .ok (.ifCond .ne 7, 3) := by decide +kernel
theorem dX11_isSameClass_31 : decode cX11_isSameClass 31 = .ok (.sipush (-10003), 3) := by decide +kernel
theorem dX11_isSameClass_34 : decode cX11_isSameClass 34 = .ok (.ireturn, 1) := by decide +kernel
theorem dX11_isSameClass_35 : decode cX11_isSameClass 35 = .ok (.aload_n 0, 1) := by decide +kernel
theorem dX11_isSameClass_36 : decode cX11_isSameClass 36 = .ok (.aload_n 0, 1) := by decide +kernel
theorem dX11_isSameClass_37 : decode cX11_isSameClass 37 = .ok (.getfield 22, 3) := by decide +kernel
theorem dX11_isSameClass_40 : decode cX11_isSameClass 40 = .ok (.aload_n 0, 1) := by decide +kernel
theorem dX11_isSameClass_41 : decode cX11_isSameClass 41 = .ok (.getfield 45, 3) := by decide +kernel
theorem dX11_isSameClass_44 : decode cX11_isSameClass 44 = .ok (.invokevirtual 148, 3) := by decide +kernel
theorem dX11_isSameClass_47 : decode cX11_isSameClass 47 = .ok (.iconst 0, 1) := by decide +kernel
theorem dX11_isSameClass_48 : decode cX11_isSameClass 48 = .ok (.istore_n 2, 1) := by decide +kernel
theorem dX11_isSameClass_49 : decode cX11_isSameClass 49 = .ok (.iload_n 2, 1) := by decide +kernel
theorem dX11_isSameClass_50 : decode cX11_isSameClass 50 = .ok (.bipush 8, 2) := by decide +kernel
theorem dX11_isSameClass_52 : decode cX11_isSameClass 52 = .ok (.if_icmp .ge 26, 3) := by decide +kernel
theorem dX11_isSameClass_55 : decode cX11_isSameClass 55 = .ok (.aload_n 0, 1) := by decide +kernel
theorem dX11_isSameClass_56 : decode cX11_isSameClass 56 = .ok (.getfield 54, 3) := by decide +kernel
theorem dX11_isSameClass_59 : decode cX11_isSameClass 59 = .ok (.iload_n 2, 1) := by decide +kernel
theorem dX11_isSameClass_60 : decode cX11_isSameClass 60 = .ok (.aload_n 0, 1) := by decide +kernel
theorem dX11_isSameClass_61 : decode cX11_isSameClass 61 = .ok (.getfield 39, 3) := by decide +kernel
theorem dX11_isSameClass_64 : decode cX11_isSameClass 64 = .ok (.bipush 8, 2) := by decide +kernel
theorem dX11_isSameClass_66 : decode cX11_isSameClass 66 = .ok (.iload_n 1, 1) := by decide +kernel
theorem dX11_isSameClass_67 : decode cX11_isSameClass 67 = .ok (.imul, 1) := by decide +kernel
theorem dX11_isSameClass_68 : decode cX11_isSameClass 68 = .ok (.iload_n 2, 1) := by decide +kernel
theorem dX11_isSameClass_69 : decode cX11_isSameClass 69 = .ok (.iadd, 1) := by decide +kernel
theorem dX11_isSameClass_70 : decode cX11_isSameClass 70 = .ok (.iaload, 1) := by decide +kernel
theorem dX11_isSameClass_71 : decode cX11_isSameClass 71 = .ok (.iastore, 1) := by decide +kernel
theorem dX11_isSameClass_72 : decode cX11_isSameClass 72 = .ok (.iinc 2 1, 3) := by decide +kernel
theorem dX11_isSameClass_75 : decode cX11_isSameClass 75 = .ok (.goto (-26), 3) := by decide +kernel
theorem dX11_isSameClass_78 : decode cX11_isSameClass 78 = .ok (.aload_n 0, 1) := by decide +kernel
theorem dX11_isSameClass_79 : decode cX11_isSameClass 79 = .ok (.aload_n 0, 1) := by decide +kernel
theorem dX11_isSameClass_80 : decode cX11_isSameClass 80 = .ok (.getfield 45, 3) := by decide +kernel
theorem dX11_isSameClass_83 : decode cX11_isSameClass 83 = .ok (.invokevirtual 167, 3) := by decide +kernel
theorem dX11_isSameClass_86 : decode cX11_isSameClass 86 = .ok (.pop, 1) := by decide +kernel
theorem dX11_isSameClass_87 : decode cX11_isSameClass 87 = .ok (.aload_n 0, 1) := by decide +kernel
theorem dX11_isSameClass_88 : decode cX11_isSameClass 88 = .ok (.aload_n 0, 1) := by decide +kernel
theorem dX11_isSameClass_89 : decode cX11_isSameClass 89 = .ok (.getfield 54, 3) := by decide +kernel
theorem dX11_isSameClass_92 : decode cX11_isSameClass 92 = .ok (.invokevirtual 167, 3) := by decide +kernel
theorem dX11_isSameClass_95 : decode cX11_isSameClass 95 = .ok (.pop, 1) := by decide +kernel
theorem dX11_isSameClass_96 : decode cX11_isSameClass 96 = .ok (.aload_n 0, 1) := by decide +kernel
theorem dX11_isSameClass_97 : decode cX11_isSameClass 97 = .ok (.getfield 45, 3) := by decide +kernel
theorem dX11_isSameClass_100 : decode cX11_isSameClass 100 = .ok (.aload_n 0, 1) := by decide +kernel
theorem dX11_isSameClass_101 : decode cX11_isSameClass 101 = .ok (.getfield 54, 3) := by decide +kernel
theorem dX11_isSameClass_104 : decode cX11_isSameClass 104 = .ok (.invokestatic 173, 3) := by decide +kernel
theorem dX11_isSameClass_107 : decode cX11_isSameClass 107 = .ok (.ifCond .eq 7, 3) := by decide +kernel
theorem dX11_isSameClass_110 : decode cX11_isSameClass 110 = .ok (.iconst 1, 1) := by decide +kernel
theorem dX11_isSameClass_111 : decode cX11_isSameClass 111 = .ok (.goto 4, 3) := by decide +kernel
theorem dX11_isSameClass_114 : decode cX11_isSameClass 114 = .ok (.iconst 0, 1) := by decide +kernel
theorem dX11_isSameClass_115 : decode cX11_isSameClass 115 = .ok (.ireturn, 1) := by decide +kernel
theorem dX11_layMatrix_0 : decode cX11_layMatrix 0 = .ok (.iconst 0, 1) := by decide +kernel
theorem dX11_layMatrix_1 : decode cX11_layMatrix 1 = .ok (.istore_n 1, 1) := by decide +kernel
theorem dX11_layMatrix_2 : decode cX11_layMatrix 2 = .ok (.iconst 0, 1) := by decide +kernel
theorem dX11_layMatrix_3 : decode cX11_layMatrix 3 = .ok (.istore_n 2, 1) := by decide +kernel
theorem dX11_layMatrix_4 : decode cX11_layMatrix 4 = .ok (.iload_n 2, 1) := by decide +kernel
theorem dX11_layMatrix_5 : decode cX11_layMatrix 5 = .ok (.aload_n 0, 1) := by decide +kernel
theorem dX11_layMatrix_6 : decode cX11_layMatrix 6 = .ok (.getfield 77, 3) := by decide +kernel
theorem dX11_layMatrix_9 : decode cX11_layMatrix 9 = .ok (.if_icmp .ge 106, 3) := by decide +kernel
theorem dX11_layMatrix_12 : decode cX11_layMatrix 12 = .ok (.iconst 0, 1) := by decide +kernel
theorem dX11_layMatrix_13 : decode cX11_layMatrix 13 = .ok (.istore_n 3, 1) := by decide +kernel
theorem dX11_layMatrix_14 : decode cX11_layMatrix 14 = .ok (.iconst 0, 1) := by decide +kernel
theorem dX11_layMatrix_15 : decode cX11_layMatrix 15 = .ok (.istore 4, 2) := by decide +kernel
theorem dX11_layMatrix_17 : decode cX11_layMatrix 17 = .ok (.iload 4, 2) := by decide +kernel
theorem dX11_layMatrix_19 : decode cX11_layMatrix 19 = .ok (.aload_n 0, 1) := by decide +kernel
theorem dX11_layMatrix_20 : decode cX11_layMatrix 20 = .ok (.getfield 77, 3) := by decide +kernel
theorem dX11_layMatrix_23 : decode cX11_layMatrix 23 = .ok (.if_icmp .ge 70, 3) := by decide +kernel
theorem dX11_layMatrix_26 : decode cX11_layMatrix 26 = .ok (.iload_n 2, 1) := by decide +kernel
theorem dX11_layMatrix_27 : decode cX11_layMatrix 27 = .ok (.aload_n 0, 1) := by decide +kernel
theorem dX11_layMatrix_28 : decode cX11_layMatrix 28 = .ok (.getfield 84, 3) := by decide +kernel
theorem dX11_layMatrix_31 : decode cX11_layMatrix 31 = .ok (.if_icmp .eq 62, 3) := by decide +kernel
theorem dX11_layMatrix_34 : decode cX11_layMatrix 34 = .ok (.iload 4, 2) := by decide +kernel
theorem dX11_layMatrix_36 : decode cX11_layMatrix 36 = .ok (.aload_n 0, 1) := by decide +kernel
theorem dX11_layMatrix_37 : decode cX11_layMatrix 37 = .ok (.getfield 84, 3) := by decide +kernel
theorem dX11_layMatrix_40 : decode cX11_layMatrix 40 = .ok (.if_icmp .eq 47, 3) := by decide +kernel
theorem dX11_layMatrix_43 : decode cX11_layMatrix 43 = .ok (.aload_n 0, 1) := by decide +kernel
theorem dX11_layMatrix_44 : decode cX11_layMatrix 44 = .ok (.getfield 57, 3) := by decide +kernel
theorem dX11_layMatrix_47 : decode cX11_layMatrix 47 = .ok (.bipush 7, 2) := by decide +kernel
theorem dX11_layMatrix_49 : decode cX11_layMatrix 49 = .ok (.iload_n 1, 1) := by decide +kernel
theorem dX11_layMatrix_50 : decode cX11_layMatrix 50 = .ok (.imul, 1) := by decide +kernel
theorem dX11_layMatrix_51 : decode cX11_layMatrix 51 = .ok (.iload_n 3, 1) := by decide +kernel
theorem dX11_layMatrix_52 : decode cX11_layMatrix 52 = .ok (.iadd, 1) := by decide +kernel
theorem dX11_layMatrix_53 : decode cX11_layMatrix 53 = .ok (.iload_n 2, 1) := by decide +kernel
theorem dX11_layMatrix_54 : decode cX11_layMatrix 54 = .ok (.iload 4, 2) := by decide +kernel
theorem dX11_layMatrix_56 : decode cX11_layMatrix 56 = .ok (.if_icmp .ne 13, 3) := by decide +kernel
theorem dX11_layMatrix_59 : decode cX11_layMatrix 59 = .ok (.aload_n 0, 1) := by decide +kernel
theorem dX11_layMatrix_60 : decode cX11_layMatrix 60 = .ok (.getfield 19, 3) := by decide +kernel
theorem dX11_layMatrix_63 : decode cX11_layMatrix 63 = .ok (.iload_n 2, 1) := by decide +kernel
theorem dX11_layMatrix_64 : decode cX11_layMatrix 64 = .ok (.iaload, 1) := by decide +kernel
theorem dX11_layMatrix_65 : decode cX11_layMatrix 65 = .ok (.i2l, 1) := by decide +kernel
theorem dX11_layMatrix_66 : decode cX11_layMatrix 66 = .ok (.goto 17, 3) := by decide +kernel
theorem dX11_layMatrix_69 : decode cX11_layMatrix 69 = .ok (.aload_n 0, 1) := by decide +kernel
theorem dX11_layMatrix_70 : decode cX11_layMatrix 70 = .ok (.getfield 16, 3) := by decide +kernel
theorem dX11_layMatrix_73 : decode cX11_layMatrix 73 = .ok (.bipush 8, 2) := by decide +kernel
theorem dX11_layMatrix_75 : decode cX11_layMatrix 75 = .ok (.iload_n 2, 1) := by decide +kernel
theorem dX11_layMatrix_76 : decode cX11_layMatrix 76 = .ok (.imul, 1) := by decide +kernel
theorem dX11_layMatrix_77 : decode cX11_layMatrix 77 = .ok (.iload 4, 2) := by decide +kernel
theorem dX11_layMatrix_79 : decode cX11_layMatrix 79 = .ok (.iadd, 1) := by decide +kernel
theorem dX11_layMatrix_80 : decode cX11_layMatrix 80 = .ok (.iaload, 1) := by decide +kernel
theorem dX11_layMatrix_81 : decode cX11_layMatrix 81 = .ok (.ineg, 1) := by decide +kernel
theorem dX11_layMatrix_82 : decode cX11_layMatrix 82 = .ok (.i2l, 1) := by decide +kernel
theorem dX11_layMatrix_83 : decode cX11_layMatrix 83 = .ok (.lastore, 1) := by decide +kernel
theorem dX11_layMatrix_84 : decode cX11_layMatrix 84 = .ok (.iinc 3 1, 3) := by decide +kernel
theorem dX11_layMatrix_87 : decode cX11_layMatrix 87 = .ok (.iinc 4 1, 3) := by decide +kernel
theorem dX11_layMatrix_90 : decode cX11_layMatrix 90 = .ok (.goto (-73), 3) := by decide +kernel
theorem dX11_layMatrix_93 : decode cX11_layMatrix 93 = .ok (.iload_n 1, 1) := by decide +kernel
theorem dX11_layMatrix_94 : decode cX11_layMatrix 94 = .ok (.iload_n 2, 1) := by decide +kernel
theorem dX11_layMatrix_95 : decode cX11_layMatrix 95 = .ok (.aload_n 0, 1) := by decide +kernel
theorem dX11_layMatrix_96 : decode cX11_layMatrix 96 = .ok (.getfield 84, 3) := by decide +kernel
theorem dX11_layMatrix_99 : decode cX11_layMatrix 99 = .ok (.if_icmp .ne 7, 3) := by decide +kernel
theorem dX11_layMatrix_102 : decode cX11_layMatrix 102 = .ok (.iconst 0, 1) := by decide +kernel
theorem dX11_layMatrix_103 : decode cX11_layMatrix 103 = .ok (.goto 4, 3) := by decide +kernel
theorem dX11_layMatrix_106 : decode cX11_layMatrix 106 = .ok (.iconst 1, 1) := by decide +kernel
theorem dX11_layMatrix_107 : decode cX11_layMatrix 107 = .ok (.iadd, 1) := by decide +kernel
theorem dX11_layMatrix_108 : decode cX11_layMatrix 108 = .ok (.istore_n 1, 1) := by decide +kernel
theorem dX11_layMatrix_109 : decode cX11_layMatrix 109 = .ok (.iinc 2 1, 3) := by decide +kernel
theorem dX11_layMatrix_112 : decode cX11_layMatrix 112 = .ok (.goto (-108), 3) := by decide +kernel
theorem dX11_layMatrix_115 : decode cX11_layMatrix 115 = .ok (.return_, 1) := by decide +kernel
theorem dX11_size_0 : decode cX11_size 0 = .ok (.lload_n 0, 1) := by decide +kernel
theorem dX11_size_1 : decode cX11_size 1 = .ok (.lconst 0, 1) := by decide +kernel
theorem dX11_size_2 : decode cX11_size 2 = .ok (.lcmp, 1) := by decide +kernel
theorem dX11_size_3 : decode cX11_size 3 = .ok (.ifCond .ge 8, 3) := by decide +kernel
theorem dX11_size_6 : decode cX11_size 6 = .ok (.lload_n 0, 1) := by decide +kernel
theorem dX11_size_7 : decode cX11_size 7 = .ok (.lneg, 1) := by decide +kernel
theorem dX11_size_8 : decode cX11_size 8 = .ok (.goto 4, 3) := by decide +kernel
theorem dX11_size_11 : decode cX11_size 11 = .ok (.lload_n 0, 1) := by decide +kernel
theorem dX11_size_12 : decode cX11_size 12 = .ok (.lreturn, 1) := by decide +kernel
theorem dX11_swap_0 : decode cX11_swap 0 = .ok (.iconst 0, 1) := by decide +kernel
theorem dX11_swap_1 : decode cX11_swap 1 = .ok (.istore 4, 2) := by decide +kernel
theorem dX11_swap_3 : decode cX11_swap 3 = .ok (.iload 4, 2) := by decide +kernel
theorem dX11_swap_5 : decode cX11_swap 5 = .ok (.bipush 7, 2) := by decide +kernel
theorem dX11_swap_7 : decode cX11_swap 7 = .ok (.if_icmp .ge 87, 3) := by decide +kernel
theorem dX11_swap_10 : decode cX11_swap 10 = .ok (.iload_n 3, 1) := by decide +kernel
theorem dX11_swap_11 : decode cX11_swap 11 = .ok (.ifCond .eq 13, 3) := by decide +kernel
theorem dX11_swap_14 : decode cX11_swap 14 = .ok (.bipush 7, 2) := by decide +kernel
theorem dX11_swap_16 : decode cX11_swap 16 = .ok (.iload 4, 2) := by decide +kernel
theorem dX11_swap_18 : decode cX11_swap 18 = .ok (.imul, 1) := by decide +kernel
theorem dX11_swap_19 : decode cX11_swap 19 = .ok (.iload_n 1, 1) := by decide +kernel
theorem dX11_swap_20 : decode cX11_swap 20 = .ok (.iadd, 1) := by decide +kernel
theorem dX11_swap_21 : decode cX11_swap 21 = .ok (.goto 10, 3) := by decide +kernel
theorem dX11_swap_24 : decode cX11_swap 24 = .ok (.bipush 7, 2) := by decide +kernel
theorem dX11_swap_26 : decode cX11_swap 26 = .ok (.iload_n 1, 1) := by decide +kernel
theorem dX11_swap_27 : decode cX11_swap 27 = .ok (.imul, 1) := by decide +kernel
theorem dX11_swap_28 : decode cX11_swap 28 = .ok (.iload 4, 2) := by decide +kernel
theorem dX11_swap_30 : decode cX11_swap 30 = .ok (.iadd, 1) := by decide +kernel
theorem dX11_swap_31 : decode cX11_swap 31 = .ok (.istore 5, 2) := by decide +kernel
theorem dX11_swap_33 : decode cX11_swap 33 = .ok (.iload_n 3, 1) := by decide +kernel
theorem dX11_swap_34 : decode cX11_swap 34 = .ok (.ifCond .eq 13, 3) := by decide +kernel
theorem dX11_swap_37 : decode cX11_swap 37 = .ok (.bipush 7, 2) := by decide +kernel
theorem dX11_swap_39 : decode cX11_swap 39 = .ok (.iload 4, 2) := by decide +kernel
theorem dX11_swap_41 : decode cX11_swap 41 = .ok (.imul, 1) := by decide +kernel
theorem dX11_swap_42 : decode cX11_swap 42 = .ok (.iload_n 2, 1) := by decide +kernel
theorem dX11_swap_43 : decode cX11_swap 43 = .ok (.iadd, 1) := by decide +kernel
theorem dX11_swap_44 : decode cX11_swap 44 = .ok (.goto 10, 3) := by decide +kernel
theorem dX11_swap_47 : decode cX11_swap 47 = .ok (.bipush 7, 2) := by decide +kernel
theorem dX11_swap_49 : decode cX11_swap 49 = .ok (.iload_n 2, 1) := by decide +kernel
theorem dX11_swap_50 : decode cX11_swap 50 = .ok (.imul, 1) := by decide +kernel
theorem dX11_swap_51 : decode cX11_swap 51 = .ok (.iload 4, 2) := by decide +kernel
theorem dX11_swap_53 : decode cX11_swap 53 = .ok (.iadd, 1) := by decide +kernel
theorem dX11_swap_54 : decode cX11_swap 54 = .ok (.istore 6, 2) := by decide +kernel
theorem dX11_swap_56 : decode cX11_swap 56 = .ok (.aload_n 0, 1) := by decide +kernel
theorem dX11_swap_57 : decode cX11_swap 57 = .ok (.getfield 57, 3) := by decide +kernel
theorem dX11_swap_60 : decode cX11_swap 60 = .ok (.iload 5, 2) := by decide +kernel
theorem dX11_swap_62 : decode cX11_swap 62 = .ok (.laload, 1) := by decide +kernel
theorem dX11_swap_63 : decode cX11_swap 63 = .ok (.lstore 7, 2) := by decide +kernel
theorem dX11_swap_65 : decode cX11_swap 65 = .ok (.aload_n 0, 1) := by decide +kernel
theorem dX11_swap_66 : decode cX11_swap 66 = .ok (.getfield 57, 3) := by decide +kernel
theorem dX11_swap_69 : decode cX11_swap 69 = .ok (.iload 5, 2) := by decide +kernel
theorem dX11_swap_71 : decode cX11_swap 71 = .ok (.aload_n 0, 1) := by decide +kernel
theorem dX11_swap_72 : decode cX11_swap 72 = .ok (.getfield 57, 3) := by decide +kernel
theorem dX11_swap_75 : decode cX11_swap 75 = .ok (.iload 6, 2) := by decide +kernel
theorem dX11_swap_77 : decode cX11_swap 77 = .ok (.laload, 1) := by decide +kernel
theorem dX11_swap_78 : decode cX11_swap 78 = .ok (.lastore, 1) := by decide +kernel
theorem dX11_swap_79 : decode cX11_swap 79 = .ok (.aload_n 0, 1) := by decide +kernel
theorem dX11_swap_80 : decode cX11_swap 80 = .ok (.getfield 57, 3) := by decide +kernel
theorem dX11_swap_83 : decode cX11_swap 83 = .ok (.iload 6, 2) := by decide +kernel
theorem dX11_swap_85 : decode cX11_swap 85 = .ok (.lload 7, 2) := by decide +kernel
theorem dX11_swap_87 : decode cX11_swap 87 = .ok (.lastore, 1) := by decide +kernel
theorem dX11_swap_88 : decode cX11_swap 88 = .ok (.iinc 4 1, 3) := by decide +kernel
theorem dX11_swap_91 : decode cX11_swap 91 = .ok (.goto (-88), 3) := by decide +kernel
theorem dX11_swap_94 : decode cX11_swap 94 = .ok (.return_, 1) := by decide +kernel
theorem dX11_lessen_0 : decode cX11_lessen 0 = .ok (.iconst 0, 1) := by decide +kernel
theorem dX11_lessen_1 : decode cX11_lessen 1 = .ok (.istore 6, 2) := by decide +kernel
theorem dX11_lessen_3 : decode cX11_lessen 3 = .ok (.iload 6, 2) := by decide +kernel
theorem dX11_lessen_5 : decode cX11_lessen 5 = .ok (.bipush 7, 2) := by decide +kernel
theorem dX11_lessen_7 : decode cX11_lessen 7 = .ok (.if_icmp .ge 76, 3) := by decide +kernel
theorem dX11_lessen_10 : decode cX11_lessen 10 = .ok (.iload 5, 2) := by decide +kernel
theorem dX11_lessen_12 : decode cX11_lessen 12 = .ok (.ifCond .eq 13, 3) := by decide +kernel
theorem dX11_lessen_15 : decode cX11_lessen 15 = .ok (.bipush 7, 2) := by decide +kernel
theorem dX11_lessen_17 : decode cX11_lessen 17 = .ok (.iload 6, 2) := by decide +kernel
theorem dX11_lessen_19 : decode cX11_lessen 19 = .ok (.imul, 1) := by decide +kernel
theorem dX11_lessen_20 : decode cX11_lessen 20 = .ok (.iload_n 1, 1) := by decide +kernel
theorem dX11_lessen_21 : decode cX11_lessen 21 = .ok (.iadd, 1) := by decide +kernel
theorem dX11_lessen_22 : decode cX11_lessen 22 = .ok (.goto 10, 3) := by decide +kernel
theorem dX11_lessen_25 : decode cX11_lessen 25 = .ok (.bipush 7, 2) := by decide +kernel
theorem dX11_lessen_27 : decode cX11_lessen 27 = .ok (.iload_n 1, 1) := by decide +kernel
theorem dX11_lessen_28 : decode cX11_lessen 28 = .ok (.imul, 1) := by decide +kernel
theorem dX11_lessen_29 : decode cX11_lessen 29 = .ok (.iload 6, 2) := by decide +kernel
theorem dX11_lessen_31 : decode cX11_lessen 31 = .ok (.iadd, 1) := by decide +kernel
theorem dX11_lessen_32 : decode cX11_lessen 32 = .ok (.istore 7, 2) := by decide +kernel
theorem dX11_lessen_34 : decode cX11_lessen 34 = .ok (.iload 5, 2) := by decide +kernel
theorem dX11_lessen_36 : decode cX11_lessen 36 = .ok (.ifCond .eq 13, 3) := by decide +kernel
theorem dX11_lessen_39 : decode cX11_lessen 39 = .ok (.bipush 7, 2) := by decide +kernel
theorem dX11_lessen_41 : decode cX11_lessen 41 = .ok (.iload 6, 2) := by decide +kernel
theorem dX11_lessen_43 : decode cX11_lessen 43 = .ok (.imul, 1) := by decide +kernel
theorem dX11_lessen_44 : decode cX11_lessen 44 = .ok (.iload_n 2, 1) := by decide +kernel
theorem dX11_lessen_45 : decode cX11_lessen 45 = .ok (.iadd, 1) := by decide +kernel
theorem dX11_lessen_46 : decode cX11_lessen 46 = .ok (.goto 10, 3) := by decide +kernel
theorem dX11_lessen_49 : decode cX11_lessen 49 = .ok (.bipush 7, 2) := by decide +kernel
theorem dX11_lessen_51 : decode cX11_lessen 51 = .ok (.iload_n 2, 1) := by decide +kernel
theorem dX11_lessen_52 : decode cX11_lessen 52 = .ok (.imul, 1) := by decide +kernel
theorem dX11_lessen_53 : decode cX11_lessen 53 = .ok (.iload 6, 2) := by decide +kernel
theorem dX11_lessen_55 : decode cX11_lessen 55 = .ok (.iadd, 1) := by decide +kernel
theorem dX11_lessen_56 : decode cX11_lessen 56 = .ok (.istore 8, 2) := by decide +kernel
theorem dX11_lessen_58 : decode cX11_lessen 58 = .ok (.aload_n 0, 1) := by decide +kernel
theorem dX11_lessen_59 : decode cX11_lessen 59 = .ok (.getfield 57, 3) := by decide +kernel
theorem dX11_lessen_62 : decode cX11_lessen 62 = .ok (.iload 7, 2) := by decide +kernel
theorem dX11_lessen_64 : decode cX11_lessen 64 = .ok (.dup2, 1) := by decide +kernel
theorem dX11_lessen_65 : decode cX11_lessen 65 = .ok (.laload, 1) := by decide +kernel
theorem dX11_lessen_66 : decode cX11_lessen 66 = .ok (.lload_n 3, 1) := by decide +kernel
theorem dX11_lessen_67 : decode cX11_lessen 67 = .ok (.aload_n 0, 1) := by decide +kernel
theorem dX11_lessen_68 : decode cX11_lessen 68 = .ok (.getfield 57, 3) := by decide +kernel
theorem dX11_lessen_71 : decode cX11_lessen 71 = .ok (.iload 8, 2) := by decide +kernel
theorem dX11_lessen_73 : decode cX11_lessen 73 = .ok (.laload, 1) := by decide +kernel
theorem dX11_lessen_74 : decode cX11_lessen 74 = .ok (.lmul, 1) := by decide +kernel
theorem dX11_lessen_75 : decode cX11_lessen 75 = .ok (.lsub, 1) := by decide +kernel
theorem dX11_lessen_76 : decode cX11_lessen 76 = .ok (.lastore, 1) := by decide +kernel
theorem dX11_lessen_77 : decode cX11_lessen 77 = .ok (.iinc 6 1, 3) := by decide +kernel
theorem dX11_lessen_80 : decode cX11_lessen 80 = .ok (.goto (-77), 3) := by decide +kernel
theorem dX11_lessen_83 : decode cX11_lessen 83 = .ok (.return_, 1) := by decide +kernel
theorem dX11_bringLeast_0 : decode cX11_bringLeast 0 = .ok (.iconst (-1), 1) := by decide +kernel
theorem dX11_bringLeast_1 : decode cX11_bringLeast 1 = .ok (.istore_n 3, 1) := by decide +kernel
theorem dX11_bringLeast_2 : decode cX11_bringLeast 2 = .ok (.bipush 7, 2) := by decide +kernel
theorem dX11_bringLeast_4 : decode cX11_bringLeast 4 = .ok (.iload_n 1, 1) := by decide +kernel
theorem dX11_bringLeast_5 : decode cX11_bringLeast 5 = .ok (.imul, 1) := by decide +kernel
theorem dX11_bringLeast_6 : decode cX11_bringLeast 6 = .ok (.istore 4, 2) := by decide +kernel
theorem dX11_bringLeast_8 : decode cX11_bringLeast 8 = .ok (.iload 4, 2) := by decide +kernel
theorem dX11_bringLeast_10 : decode cX11_bringLeast 10 = .ok (.bipush 7, 2) := by decide +kernel
theorem dX11_bringLeast_12 : decode cX11_bringLeast 12 = .ok (.iload_n 2, 1) := by decide +kernel
theorem dX11_bringLeast_13 : decode cX11_bringLeast 13 = .ok (.imul, 1) := by decide +kernel
theorem dX11_bringLeast_14 : decode cX11_bringLeast 14 = .ok (.if_icmp .ge 85, 3) := by decide +kernel
theorem dX11_bringLeast_17 : decode cX11_bringLeast 17 = .ok (.iload 4, 2) := by decide +kernel
theorem dX11_bringLeast_19 : decode cX11_bringLeast 19 = .ok (.bipush 7, 2) := by decide +kernel
theorem dX11_bringLeast_21 : decode cX11_bringLeast 21 = .ok (.irem, 1) := by decide +kernel
theorem dX11_bringLeast_22 : decode cX11_bringLeast 22 = .ok (.iload_n 1, 1) := by decide +kernel
theorem dX11_bringLeast_23 : decode cX11_bringLeast 23 = .ok (.if_icmp .lt 28, 3) := by decide +kernel
theorem dX11_bringLeast_26 : decode cX11_bringLeast 26 = .ok (.iload 4, 2) := by decide +kernel
theorem dX11_bringLeast_28 : decode cX11_bringLeast 28 = .ok (.bipush 7, 2) := by decide +kernel
theorem dX11_bringLeast_30 : decode cX11_bringLeast 30 = .ok (.irem, 1) := by decide +kernel
theorem dX11_bringLeast_31 : decode cX11_bringLeast 31 = .ok (.iload_n 2, 1) := by decide +kernel
theorem dX11_bringLeast_32 : decode cX11_bringLeast 32 = .ok (.if_icmp .ge 19, 3) := by decide +kernel
theorem dX11_bringLeast_35 : decode cX11_bringLeast 35 = .ok (.aload_n 0, 1) := by decide +kernel
theorem dX11_bringLeast_36 : decode cX11_bringLeast 36 = .ok (.getfield 57, 3) := by decide +kernel
theorem dX11_bringLeast_39 : decode cX11_bringLeast 39 = .ok (.iload 4, 2) := by decide +kernel
theorem dX11_bringLeast_41 : decode cX11_bringLeast 41 = .ok (.laload, 1) := by decide +kernel
theorem dX11_bringLeast_42 : decode cX11_bringLeast 42 = .ok (.lconst 0, 1) := by decide +kernel
theorem dX11_bringLeast_43 : decode cX11_bringLeast 43 = .ok (.lcmp, 1) := by decide +kernel
theorem dX11_bringLeast_44 : decode cX11_bringLeast 44 = .ok (.ifCond .eq 7, 3) := by decide +kernel
theorem dX11_bringLeast_47 : decode cX11_bringLeast 47 = .ok (.iconst 1, 1) := by decide +kernel
theorem dX11_bringLeast_48 : decode cX11_bringLeast 48 = .ok (.goto 4, 3) := by decide +kernel
theorem dX11_bringLeast_51 : decode cX11_bringLeast 51 = .ok (.iconst 0, 1) := by decide +kernel
theorem dX11_bringLeast_52 : decode cX11_bringLeast 52 = .ok (.istore 5, 2) := by decide +kernel
theorem dX11_bringLeast_54 : decode cX11_bringLeast 54 = .ok (.iload 5, 2) := by decide +kernel
theorem dX11_bringLeast_56 : decode cX11_bringLeast 56 = .ok (.ifCond .eq 35, 3) := by decide +kernel
theorem dX11_bringLeast_59 : decode cX11_bringLeast 59 = .ok (.iload_n 3, 1) := by decide +kernel
theorem dX11_bringLeast_60 : decode cX11_bringLeast 60 = .ok (.ifCond .lt 26, 3) := by decide +kernel
theorem dX11_bringLeast_63 : decode cX11_bringLeast 63 = .ok (.aload_n 0, 1) := by decide +kernel
theorem dX11_bringLeast_64 : decode cX11_bringLeast 64 = .ok (.getfield 57, 3) := by decide +kernel
theorem dX11_bringLeast_67 : decode cX11_bringLeast 67 = .ok (.iload 4, 2) := by decide +kernel
theorem dX11_bringLeast_69 : decode cX11_bringLeast 69 = .ok (.laload, 1) := by decide +kernel
theorem dX11_bringLeast_70 : decode cX11_bringLeast 70 = .ok (.invokestatic 186, 3) := by decide +kernel
theorem dX11_bringLeast_73 : decode cX11_bringLeast 73 = .ok (.aload_n 0, 1) := by decide +kernel
theorem dX11_bringLeast_74 : decode cX11_bringLeast 74 = .ok (.getfield 57, 3) := by decide +kernel
theorem dX11_bringLeast_77 : decode cX11_bringLeast 77 = .ok (.iload_n 3, 1) := by decide +kernel
theorem dX11_bringLeast_78 : decode cX11_bringLeast 78 = .ok (.laload, 1) := by decide +kernel
theorem dX11_bringLeast_79 : decode cX11_bringLeast 79 = .ok (.invokestatic 186, 3) := by decide +kernel
theorem dX11_bringLeast_82 : decode cX11_bringLeast 82 = .ok (.lcmp, 1) := by decide +kernel
theorem dX11_bringLeast_83 : decode cX11_bringLeast 83 = .ok (.ifCond .ge 8, 3) := by decide +kernel
theorem dX11_bringLeast_86 : decode cX11_bringLeast 86 = .ok (.iload 4, 2) := by decide +kernel
theorem dX11_bringLeast_88 : decode cX11_bringLeast 88 = .ok (.goto 4, 3) := by decide +kernel
theorem dX11_bringLeast_91 : decode cX11_bringLeast 91 = .ok (.iload_n 3, 1) := by decide +kernel
theorem dX11_bringLeast_92 : decode cX11_bringLeast 92 = .ok (.istore_n 3, 1) := by decide +kernel
theorem dX11_bringLeast_93 : decode cX11_bringLeast 93 = .ok (.iinc 4 1, 3) := by decide +kernel
theorem dX11_bringLeast_96 : decode cX11_bringLeast 96 = .ok (.goto (-88), 3) := by decide +kernel
theorem dX11_bringLeast_99 : decode cX11_bringLeast 99 = .ok (.iload_n 3, 1) := by decide +kernel
theorem dX11_bringLeast_100 : decode cX11_bringLeast 100 = .ok (.ifCond .ge 5, 3) := by decide +kernel
theorem dX11_bringLeast_103 : decode cX11_bringLeast 103 = .ok (.iconst 0, 1) := by decide +kernel
theorem dX11_bringLeast_104 : decode cX11_bringLeast 104 = .ok (.ireturn, 1) := by decide +kernel
theorem dX11_bringLeast_105 : decode cX11_bringLeast 105 = .ok (.aload_n 0, 1) := by decide +kernel
theorem dX11_bringLeast_106 : decode cX11_bringLeast 106 = .ok (.iload_n 1, 1) := by decide +kernel
theorem dX11_bringLeast_107 : decode cX11_bringLeast 107 = .ok (.iload_n 3, 1) := by decide +kernel
theorem dX11_bringLeast_108 : decode cX11_bringLeast 108 = .ok (.bipush 7, 2) := by decide +kernel
theorem dX11_bringLeast_110 : decode cX11_bringLeast 110 = .ok (.idiv, 1) := by decide +kernel
theorem dX11_bringLeast_111 : decode cX11_bringLeast 111 = .ok (.iconst 0, 1) := by decide +kernel
theorem dX11_bringLeast_112 : decode cX11_bringLeast 112 = .ok (.invokevirtual 190, 3) := by decide +kernel
theorem dX11_bringLeast_115 : decode cX11_bringLeast 115 = .ok (.aload_n 0, 1) := by decide +kernel
theorem dX11_bringLeast_116 : decode cX11_bringLeast 116 = .ok (.iload_n 1, 1) := by decide +kernel
theorem dX11_bringLeast_117 : decode cX11_bringLeast 117 = .ok (.iload_n 3, 1) := by decide +kernel
theorem dX11_bringLeast_118 : decode cX11_bringLeast 118 = .ok (.bipush 7, 2) := by decide +kernel
theorem dX11_bringLeast_120 : decode cX11_bringLeast 120 = .ok (.irem, 1) := by decide +kernel
theorem dX11_bringLeast_121 : decode cX11_bringLeast 121 = .ok (.iconst 1, 1) := by decide +kernel
theorem dX11_bringLeast_122 : decode cX11_bringLeast 122 = .ok (.invokevirtual 190, 3) := by decide +kernel
theorem dX11_bringLeast_125 : decode cX11_bringLeast 125 = .ok (.iconst 1, 1) := by decide +kernel
theorem dX11_bringLeast_126 : decode cX11_bringLeast 126 = .ok (.ireturn, 1) := by decide +kernel
theorem dX11_isDone_0 : decode cX11_isDone 0 = .ok (.iconst 1, 1) := by decide +kernel
theorem dX11_isDone_1 : decode cX11_isDone 1 = .ok (.istore_n 3, 1) := by decide +kernel
theorem dX11_isDone_2 : decode cX11_isDone 2 = .ok (.iload_n 1, 1) := by decide +kernel
theorem dX11_isDone_3 : decode cX11_isDone 3 = .ok (.iconst 1, 1) := by decide +kernel
theorem dX11_isDone_4 : decode cX11_isDone 4 = .ok (.iadd, 1) := by decide +kernel
theorem dX11_isDone_5 : decode cX11_isDone 5 = .ok (.istore 4, 2) := by decide +kernel
theorem dX11_isDone_7 : decode cX11_isDone 7 = .ok (.iload 4, 2) := by decide +kernel
theorem dX11_isDone_9 : decode cX11_isDone 9 = .ok (.iload_n 2, 1) := by decide +kernel
theorem dX11_isDone_10 : decode cX11_isDone 10 = .ok (.if_icmp .ge 66, 3) := by decide +kernel
theorem dX11_isDone_13 : decode cX11_isDone 13 = .ok (.aload_n 0, 1) := by decide +kernel
theorem dX11_isDone_14 : decode cX11_isDone 14 = .ok (.iload 4, 2) := by decide +kernel
theorem dX11_isDone_16 : decode cX11_isDone 16 = .ok (.iload_n 1, 1) := by decide +kernel
theorem dX11_isDone_17 : decode cX11_isDone 17 = .ok (.aload_n 0, 1) := by decide +kernel
theorem dX11_isDone_18 : decode cX11_isDone 18 = .ok (.getfield 57, 3) := by decide +kernel
theorem dX11_isDone_21 : decode cX11_isDone 21 = .ok (.bipush 7, 2) := by decide +kernel
theorem dX11_isDone_23 : decode cX11_isDone 23 = .ok (.iload 4, 2) := by decide +kernel
theorem dX11_isDone_25 : decode cX11_isDone 25 = .ok (.imul, 1) := by decide +kernel
theorem dX11_isDone_26 : decode cX11_isDone 26 = .ok (.iload_n 1, 1) := by decide +kernel
theorem dX11_isDone_27 : decode cX11_isDone 27 = .ok (.iadd, 1) := by decide +kernel
theorem dX11_isDone_28 : decode cX11_isDone 28 = .ok (.laload, 1) := by decide +kernel
theorem dX11_isDone_29 : decode cX11_isDone 29 = .ok (.aload_n 0, 1) := by decide +kernel
theorem dX11_isDone_30 : decode cX11_isDone 30 = .ok (.getfield 57, 3) := by decide +kernel
theorem dX11_isDone_33 : decode cX11_isDone 33 = .ok (.bipush 8, 2) := by decide +kernel
theorem dX11_isDone_35 : decode cX11_isDone 35 = .ok (.iload_n 1, 1) := by decide +kernel
theorem dX11_isDone_36 : decode cX11_isDone 36 = .ok (.imul, 1) := by decide +kernel
theorem dX11_isDone_37 : decode cX11_isDone 37 = .ok (.laload, 1) := by decide +kernel
theorem dX11_isDone_38 : decode cX11_isDone 38 = .ok (.ldiv, 1) := by decide +kernel
theorem dX11_isDone_39 : decode cX11_isDone 39 = .ok (.iconst 0, 1) := by decide +kernel
theorem dX11_isDone_40 : decode cX11_isDone 40 = .ok (.invokevirtual 194, 3) := by decide +kernel
theorem dX11_isDone_43 : decode cX11_isDone 43 = .ok (.iload_n 3, 1) := by decide +kernel
theorem dX11_isDone_44 : decode cX11_isDone 44 = .ok (.ifCond .eq 24, 3) := by decide +kernel
theorem dX11_isDone_47 : decode cX11_isDone 47 = .ok (.aload_n 0, 1) := by decide +kernel
theorem dX11_isDone_48 : decode cX11_isDone 48 = .ok (.getfield 57, 3) := by decide +kernel
theorem dX11_isDone_51 : decode cX11_isDone 51 = .ok (.bipush 7, 2) := by decide +kernel
theorem dX11_isDone_53 : decode cX11_isDone 53 = .ok (.iload 4, 2) := by decide +kernel
theorem dX11_isDone_55 : decode cX11_isDone 55 = .ok (.imul, 1) := by decide +kernel
theorem dX11_isDone_56 : decode cX11_isDone 56 = .ok (.iload_n 1, 1) := by decide +kernel
theorem dX11_isDone_57 : decode cX11_isDone 57 = .ok (.iadd, 1) := by decide +kernel
theorem dX11_isDone_58 : decode cX11_isDone 58 = .ok (.laload, 1) := by decide +kernel
theorem dX11_isDone_59 : decode cX11_isDone 59 = .ok (.lconst 0, 1) := by decide +kernel
theorem dX11_isDone_60 : decode cX11_isDone 60 = .ok (.lcmp, 1) := by decide +kernel
theorem dX11_isDone_61 : decode cX11_isDone 61 = .ok (.ifCond .ne 7, 3) := by decide +kernel
theorem dX11_isDone_64 : decode cX11_isDone 64 = .ok (.iconst 1, 1) := by decide +kernel
theorem dX11_isDone_65 : decode cX11_isDone 65 = .ok (.goto 4, 3) := by decide +kernel
theorem dX11_isDone_68 : decode cX11_isDone 68 = .ok (.iconst 0, 1) := by decide +kernel
theorem dX11_isDone_69 : decode cX11_isDone 69 = .ok (.istore_n 3, 1) := by decide +kernel
theorem dX11_isDone_70 : decode cX11_isDone 70 = .ok (.iinc 4 1, 3) := by decide +kernel
theorem dX11_isDone_73 : decode cX11_isDone 73 = .ok (.goto (-66), 3) := by decide +kernel
theorem dX11_isDone_76 : decode cX11_isDone 76 = .ok (.iload_n 1, 1) := by decide +kernel
theorem dX11_isDone_77 : decode cX11_isDone 77 = .ok (.iconst 1, 1) := by decide +kernel
theorem dX11_isDone_78 : decode cX11_isDone 78 = .ok (.iadd, 1) := by decide +kernel
theorem dX11_isDone_79 : decode cX11_isDone 79 = .ok (.istore 4, 2) := by decide +kernel
theorem dX11_isDone_81 : decode cX11_isDone 81 = .ok (.iload 4, 2) := by decide +kernel
theorem dX11_isDone_83 : decode cX11_isDone 83 = .ok (.iload_n 2, 1) := by decide +kernel
theorem dX11_isDone_84 : decode cX11_isDone 84 = .ok (.if_icmp .ge 66, 3) := by decide +kernel
theorem dX11_isDone_87 : decode cX11_isDone 87 = .ok (.aload_n 0, 1) := by decide +kernel
theorem dX11_isDone_88 : decode cX11_isDone 88 = .ok (.iload 4, 2) := by decide +kernel
theorem dX11_isDone_90 : decode cX11_isDone 90 = .ok (.iload_n 1, 1) := by decide +kernel
theorem dX11_isDone_91 : decode cX11_isDone 91 = .ok (.aload_n 0, 1) := by decide +kernel
theorem dX11_isDone_92 : decode cX11_isDone 92 = .ok (.getfield 57, 3) := by decide +kernel
theorem dX11_isDone_95 : decode cX11_isDone 95 = .ok (.bipush 7, 2) := by decide +kernel
theorem dX11_isDone_97 : decode cX11_isDone 97 = .ok (.iload_n 1, 1) := by decide +kernel
theorem dX11_isDone_98 : decode cX11_isDone 98 = .ok (.imul, 1) := by decide +kernel
theorem dX11_isDone_99 : decode cX11_isDone 99 = .ok (.iload 4, 2) := by decide +kernel
theorem dX11_isDone_101 : decode cX11_isDone 101 = .ok (.iadd, 1) := by decide +kernel
theorem dX11_isDone_102 : decode cX11_isDone 102 = .ok (.laload, 1) := by decide +kernel
theorem dX11_isDone_103 : decode cX11_isDone 103 = .ok (.aload_n 0, 1) := by decide +kernel
theorem dX11_isDone_104 : decode cX11_isDone 104 = .ok (.getfield 57, 3) := by decide +kernel
theorem dX11_isDone_107 : decode cX11_isDone 107 = .ok (.bipush 8, 2) := by decide +kernel
theorem dX11_isDone_109 : decode cX11_isDone 109 = .ok (.iload_n 1, 1) := by decide +kernel
theorem dX11_isDone_110 : decode cX11_isDone 110 = .ok (.imul, 1) := by decide +kernel
theorem dX11_isDone_111 : decode cX11_isDone 111 = .ok (.laload, 1) := by decide +kernel
theorem dX11_isDone_112 : decode cX11_isDone 112 = .ok (.ldiv, 1) := by decide +kernel
theorem dX11_isDone_113 : decode cX11_isDone 113 = .ok (.iconst 1, 1) := by decide +kernel
theorem dX11_isDone_114 : decode cX11_isDone 114 = .ok (.invokevirtual 194, 3) := by decide +kernel
theorem dX11_isDone_117 : decode cX11_isDone 117 = .ok (.iload_n 3, 1) := by decide +kernel
theorem dX11_isDone_118 : decode cX11_isDone 118 = .ok (.ifCond .eq 24, 3) := by decide +kernel
theorem dX11_isDone_121 : decode cX11_isDone 121 = .ok (.aload_n 0, 1) := by decide +kernel
theorem dX11_isDone_122 : decode cX11_isDone 122 = .ok (.getfield 57, 3) := by decide +kernel
theorem dX11_isDone_125 : decode cX11_isDone 125 = .ok (.bipush 7, 2) := by decide +kernel
theorem dX11_isDone_127 : decode cX11_isDone 127 = .ok (.iload_n 1, 1) := by decide +kernel
theorem dX11_isDone_128 : decode cX11_isDone 128 = .ok (.imul, 1) := by decide +kernel
theorem dX11_isDone_129 : decode cX11_isDone 129 = .ok (.iload 4, 2) := by decide +kernel
theorem dX11_isDone_131 : decode cX11_isDone 131 = .ok (.iadd, 1) := by decide +kernel
theorem dX11_isDone_132 : decode cX11_isDone 132 = .ok (.laload, 1) := by decide +kernel
theorem dX11_isDone_133 : decode cX11_isDone 133 = .ok (.lconst 0, 1) := by decide +kernel
theorem dX11_isDone_134 : decode cX11_isDone 134 = .ok (.lcmp, 1) := by decide +kernel
theorem dX11_isDone_135 : decode cX11_isDone 135 = .ok (.ifCond .ne 7, 3) := by decide +kernel
theorem dX11_isDone_138 : decode cX11_isDone 138 = .ok (.iconst 1, 1) := by decide +kernel
theorem dX11_isDone_139 : decode cX11_isDone 139 = .ok (.goto 4, 3) := by decide +kernel
theorem dX11_isDone_142 : decode cX11_isDone 142 = .ok (.iconst 0, 1) := by decide +kernel
theorem dX11_isDone_143 : decode cX11_isDone 143 = .ok (.istore_n 3, 1) := by decide +kernel
theorem dX11_isDone_144 : decode cX11_isDone 144 = .ok (.iinc 4 1, 3) := by decide +kernel
theorem dX11_isDone_147 : decode cX11_isDone 147 = .ok (.goto (-66), 3) := by decide +kernel
theorem dX11_isDone_150 : decode cX11_isDone 150 = .ok (.iload_n 1, 1) := by decide +kernel
theorem dX11_isDone_151 : decode cX11_isDone 151 = .ok (.iconst 1, 1) := by decide +kernel
theorem dX11_isDone_152 : decode cX11_isDone 152 = .ok (.iadd, 1) := by decide +kernel
theorem dX11_isDone_153 : decode cX11_isDone 153 = .ok (.istore 4, 2) := by decide +kernel
theorem dX11_isDone_155 : decode cX11_isDone 155 = .ok (.iload 4, 2) := by decide +kernel
theorem dX11_isDone_157 : decode cX11_isDone 157 = .ok (.iload_n 2, 1) := by decide +kernel
theorem dX11_isDone_158 : decode cX11_isDone 158 = .ok (.if_icmp .ge 75, 3) := by decide +kernel
theorem dX11_isDone_161 : decode cX11_isDone 161 = .ok (.iload_n 3, 1) := by decide +kernel
theorem dX11_isDone_162 : decode cX11_isDone 162 = .ok (.ifCond .eq 71, 3) := by decide +kernel
theorem dX11_isDone_165 : decode cX11_isDone 165 = .ok (.iload_n 1, 1) := by decide +kernel
theorem dX11_isDone_166 : decode cX11_isDone 166 = .ok (.iconst 1, 1) := by decide +kernel
theorem dX11_isDone_167 : decode cX11_isDone 167 = .ok (.iadd, 1) := by decide +kernel
theorem dX11_isDone_168 : decode cX11_isDone 168 = .ok (.istore 5, 2) := by decide +kernel
theorem dX11_isDone_170 : decode cX11_isDone 170 = .ok (.iload 5, 2) := by decide +kernel
theorem dX11_isDone_172 : decode cX11_isDone 172 = .ok (.iload_n 2, 1) := by decide +kernel
theorem dX11_isDone_173 : decode cX11_isDone 173 = .ok (.if_icmp .ge 54, 3) := by decide +kernel
theorem dX11_isDone_176 : decode cX11_isDone 176 = .ok (.iload_n 3, 1) := by decide +kernel
theorem dX11_isDone_177 : decode cX11_isDone 177 = .ok (.ifCond .eq 50, 3) := by decide +kernel
theorem dX11_isDone_180 : decode cX11_isDone 180 = .ok (.aload_n 0, 1) := by decide +kernel
theorem dX11_isDone_181 : decode cX11_isDone 181 = .ok (.getfield 57, 3) := by decide +kernel
theorem dX11_isDone_184 : decode cX11_isDone 184 = .ok (.bipush 7, 2) := by decide +kernel
theorem dX11_isDone_186 : decode cX11_isDone 186 = .ok (.iload 4, 2) := by decide +kernel
theorem dX11_isDone_188 : decode cX11_isDone 188 = .ok (.imul, 1) := by decide +kernel
theorem dX11_isDone_189 : decode cX11_isDone 189 = .ok (.iload 5, 2) := by decide +kernel
theorem dX11_isDone_191 : decode cX11_isDone 191 = .ok (.iadd, 1) := by decide +kernel
theorem dX11_isDone_192 : decode cX11_isDone 192 = .ok (.laload, 1) := by decide +kernel
theorem dX11_isDone_193 : decode cX11_isDone 193 = .ok (.aload_n 0, 1) := by decide +kernel
theorem dX11_isDone_194 : decode cX11_isDone 194 = .ok (.getfield 57, 3) := by decide +kernel
theorem dX11_isDone_197 : decode cX11_isDone 197 = .ok (.bipush 8, 2) := by decide +kernel
theorem dX11_isDone_199 : decode cX11_isDone 199 = .ok (.iload_n 1, 1) := by decide +kernel
theorem dX11_isDone_200 : decode cX11_isDone 200 = .ok (.imul, 1) := by decide +kernel
theorem dX11_isDone_201 : decode cX11_isDone 201 = .ok (.laload, 1) := by decide +kernel
theorem dX11_isDone_202 : decode cX11_isDone 202 = .ok (.lrem, 1) := by decide +kernel
theorem dX11_isDone_203 : decode cX11_isDone 203 = .ok (.lconst 0, 1) := by decide +kernel
theorem dX11_isDone_204 : decode cX11_isDone 204 = .ok (.lcmp, 1) := by decide +kernel
theorem dX11_isDone_205 : decode cX11_isDone 205 = .ok (.ifCond .eq 16, 3) := by decide +kernel
theorem dX11_isDone_208 : decode cX11_isDone 208 = .ok (.aload_n 0, 1) := by decide +kernel
theorem dX11_isDone_209 : decode cX11_isDone 209 = .ok (.iload_n 1, 1) := by decide +kernel
theorem dX11_isDone_210 : decode cX11_isDone 210 = .ok (.iload 4, 2) := by decide +kernel
theorem dX11_isDone_212 : decode cX11_isDone 212 = .ok (.ldc2_w 198, 3) := by decide +kernel
theorem dX11_isDone_215 : decode cX11_isDone 215 = .ok (.iconst 0, 1) := by decide +kernel
theorem dX11_isDone_216 : decode cX11_isDone 216 = .ok (.invokevirtual 194, 3) := by decide +kernel
theorem dX11_isDone_219 : decode cX11_isDone 219 = .ok (.iconst 0, 1) := by decide +kernel
theorem dX11_isDone_220 : decode cX11_isDone 220 = .ok (.istore_n 3, 1) := by decide +kernel
theorem dX11_isDone_221 : decode cX11_isDone 221 = .ok (.iinc 5 1, 3) := by decide +kernel
theorem dX11_isDone_224 : decode cX11_isDone 224 = .ok (.goto (-54), 3) := by decide +kernel
theorem dX11_isDone_227 : decode cX11_isDone 227 = .ok (.iinc 4 1, 3) := by decide +kernel
theorem dX11_isDone_230 : decode cX11_isDone 230 = .ok (.goto (-75), 3) := by decide +kernel
theorem dX11_isDone_233 : decode cX11_isDone 233 = .ok (.iload_n 3, 1) := by decide +kernel
theorem dX11_isDone_234 : decode cX11_isDone 234 = .ok (.ireturn, 1) := by decide +kernel
theorem dX11_smith_0 : decode cX11_smith 0 = .ok (.aload_n 0, 1) := by decide +kernel
theorem dX11_smith_1 : decode cX11_smith 1 = .ok (.invokevirtual 200, 3) := by decide +kernel
theorem dX11_smith_4 : decode cX11_smith 4 = .ok (.aload_n 0, 1) := by decide +kernel
theorem dX11_smith_5 : decode cX11_smith 5 = .ok (.getfield 77, 3) := by decide +kernel
theorem dX11_smith_8 : decode cX11_smith 8 = .ok (.iconst 1, 1) := by decide +kernel
theorem dX11_smith_9 : decode cX11_smith 9 = .ok (.isub, 1) := by decide +kernel
theorem dX11_smith_10 : decode cX11_smith 10 = .ok (.istore_n 1, 1) := by decide +kernel
theorem dX11_smith_11 : decode cX11_smith 11 = .ok (.iconst 0, 1) := by decide +kernel
theorem dX11_smith_12 : decode cX11_smith 12 = .ok (.istore_n 2, 1) := by decide +kernel
theorem dX11_smith_13 : decode cX11_smith 13 = .ok (.iload_n 2, 1) := by decide +kernel
theorem dX11_smith_14 : decode cX11_smith 14 = .ok (.iload_n 1, 1) := by decide +kernel
theorem dX11_smith_15 : decode cX11_smith 15 = .ok (.if_icmp .ge 34, 3) := by decide +kernel
theorem dX11_smith_18 : decode cX11_smith 18 = .ok (.iconst 0, 1) := by decide +kernel
theorem dX11_smith_19 : decode cX11_smith 19 = .ok (.istore_n 3, 1) := by decide +kernel
theorem dX11_smith_20 : decode cX11_smith 20 = .ok (.iload_n 3, 1) := by decide +kernel
theorem dX11_smith_21 : decode cX11_smith 21 = .ok (.ifCond .ne 22, 3) := by decide +kernel
theorem dX11_smith_24 : decode cX11_smith 24 = .ok (.aload_n 0, 1) := by decide +kernel
theorem dX11_smith_25 : decode cX11_smith 25 = .ok (.iload_n 2, 1) := by decide +kernel
theorem dX11_smith_26 : decode cX11_smith 26 = .ok (.iload_n 1, 1) := by decide +kernel
theorem dX11_smith_27 : decode cX11_smith 27 = .ok (.invokevirtual 203, 3) := by decide +kernel
theorem dX11_smith_30 : decode cX11_smith 30 = .ok (.ifCond .eq 13, 3) := by decide +kernel
theorem dX11_smith_33 : decode cX11_smith 33 = .ok (.aload_n 0, 1) := by decide +kernel
theorem dX11_smith_34 : decode cX11_smith 34 = .ok (.iload_n 2, 1) := by decide +kernel
theorem dX11_smith_35 : decode cX11_smith 35 = .ok (.iload_n 1, 1) := by decide +kernel
theorem dX11_smith_36 : decode cX11_smith 36 = .ok (.invokevirtual 207, 3) := by decide +kernel
theorem dX11_smith_39 : decode cX11_smith 39 = .ok (.istore_n 3, 1) := by decide +kernel
theorem dX11_smith_40 : decode cX11_smith 40 = .ok (.goto (-20), 3) := by decide +kernel
theorem dX11_smith_43 : decode cX11_smith 43 = .ok (.iinc 2 1, 3) := by decide +kernel
theorem dX11_smith_46 : decode cX11_smith 46 = .ok (.goto (-33), 3) := by decide +kernel
theorem dX11_smith_49 : decode cX11_smith 49 = .ok (.return_, 1) := by decide +kernel
theorem dX11_treeCount_0 : decode cX11_treeCount 0 = .ok (.aload_n 0, 1) := by decide +kernel
theorem dX11_treeCount_1 : decode cX11_treeCount 1 = .ok (.invokevirtual 119, 3) := by decide +kernel
theorem dX11_treeCount_4 : decode cX11_treeCount 4 = .ok (.ifCond .ne 5, 3) := by decide +kernel
theorem dX11_treeCount_7 : decode cX11_treeCount 7 = .ok (.lconst 0, 1) := by decide +kernel
theorem dX11_treeCount_8 : decode cX11_treeCount 8 = .ok (.lreturn, 1) := by decide +kernel
theorem dX11_treeCount_9 : decode cX11_treeCount 9 = .ok (.aload_n 0, 1) := by decide +kernel
theorem dX11_treeCount_10 : decode cX11_treeCount 10 = .ok (.invokevirtual 210, 3) := by decide +kernel
theorem dX11_treeCount_13 : decode cX11_treeCount 13 = .ok (.lconst 1, 1) := by decide +kernel
theorem dX11_treeCount_14 : decode cX11_treeCount 14 = .ok (.lstore_n 1, 1) := by decide +kernel
theorem dX11_treeCount_15 : decode cX11_treeCount 15 = .ok (.iconst 0, 1) := by decide +kernel
theorem dX11_treeCount_16 : decode cX11_treeCount 16 = .ok (.istore_n 3, 1) := by decide +kernel
theorem dX11_treeCount_17 : decode cX11_treeCount 17 = .ok (.iload_n 3, 1) := by decide +kernel
theorem dX11_treeCount_18 : decode cX11_treeCount 18 = .ok (.aload_n 0, 1) := by decide +kernel
theorem dX11_treeCount_19 : decode cX11_treeCount 19 = .ok (.getfield 77, 3) := by decide +kernel
theorem dX11_treeCount_22 : decode cX11_treeCount 22 = .ok (.iconst 1, 1) := by decide +kernel
theorem dX11_treeCount_23 : decode cX11_treeCount 23 = .ok (.isub, 1) := by decide +kernel
theorem dX11_treeCount_24 : decode cX11_treeCount 24 = .ok (.if_icmp .ge 24, 3) := by decide +kernel
theorem dX11_treeCount_27 : decode cX11_treeCount 27 = .ok (.lload_n 1, 1) := by decide +kernel
theorem dX11_treeCount_28 : decode cX11_treeCount 28 = .ok (.aload_n 0, 1) := by decide +kernel
theorem dX11_treeCount_29 : decode cX11_treeCount 29 = .ok (.getfield 57, 3) := by decide +kernel
theorem dX11_treeCount_32 : decode cX11_treeCount 32 = .ok (.bipush 8, 2) := by decide +kernel
theorem dX11_treeCount_34 : decode cX11_treeCount 34 = .ok (.iload_n 3, 1) := by decide +kernel
theorem dX11_treeCount_35 : decode cX11_treeCount 35 = .ok (.imul, 1) := by decide +kernel
theorem dX11_treeCount_36 : decode cX11_treeCount 36 = .ok (.laload, 1) := by decide +kernel
theorem dX11_treeCount_37 : decode cX11_treeCount 37 = .ok (.invokestatic 186, 3) := by decide +kernel
theorem dX11_treeCount_40 : decode cX11_treeCount 40 = .ok (.lmul, 1) := by decide +kernel
theorem dX11_treeCount_41 : decode cX11_treeCount 41 = .ok (.lstore_n 1, 1) := by decide +kernel
theorem dX11_treeCount_42 : decode cX11_treeCount 42 = .ok (.iinc 3 1, 3) := by decide +kernel
theorem dX11_treeCount_45 : decode cX11_treeCount 45 = .ok (.goto (-28), 3) := by decide +kernel
theorem dX11_treeCount_48 : decode cX11_treeCount 48 = .ok (.lload_n 1, 1) := by decide +kernel
theorem dX11_treeCount_49 : decode cX11_treeCount 49 = .ok (.lreturn, 1) := by decide +kernel
theorem dX11_factor_0 : decode cX11_factor 0 = .ok (.iload_n 1, 1) := by decide +kernel
theorem dX11_factor_1 : decode cX11_factor 1 = .ok (.iconst (-1), 1) := by decide +kernel
theorem dX11_factor_2 : decode cX11_factor 2 = .ok (.if_icmp .lt 10, 3) := by decide +kernel
theorem dX11_factor_5 : decode cX11_factor 5 = .ok (.aload_n 0, 1) := by decide +kernel
theorem dX11_factor_6 : decode cX11_factor 6 = .ok (.invokevirtual 119, 3) := by decide +kernel
theorem dX11_factor_9 : decode cX11_factor 9 = .ok (.ifCond .ne 7, 3) := by decide +kernel
theorem dX11_factor_12 : decode cX11_factor 12 = .ok (.invokestatic 213, 3) := by decide +kernel
theorem dX11_factor_15 : decode cX11_factor 15 = .ok (.lreturn, 1) := by decide +kernel
theorem dX11_factor_16 : decode cX11_factor 16 = .ok (.aload_n 0, 1) := by decide +kernel
theorem dX11_factor_17 : decode cX11_factor 17 = .ok (.invokevirtual 210, 3) := by decide +kernel
theorem dX11_factor_20 : decode cX11_factor 20 = .ok (.iconst 0, 1) := by decide +kernel
theorem dX11_factor_21 : decode cX11_factor 21 = .ok (.istore_n 2, 1) := by decide +kernel
theorem dX11_factor_22 : decode cX11_factor 22 = .ok (.iconst 0, 1) := by decide +kernel
theorem dX11_factor_23 : decode cX11_factor 23 = .ok (.istore_n 3, 1) := by decide +kernel
theorem dX11_factor_24 : decode cX11_factor 24 = .ok (.iload_n 3, 1) := by decide +kernel
theorem dX11_factor_25 : decode cX11_factor 25 = .ok (.aload_n 0, 1) := by decide +kernel
theorem dX11_factor_26 : decode cX11_factor 26 = .ok (.getfield 77, 3) := by decide +kernel
theorem dX11_factor_29 : decode cX11_factor 29 = .ok (.iconst 1, 1) := by decide +kernel
theorem dX11_factor_30 : decode cX11_factor 30 = .ok (.isub, 1) := by decide +kernel
theorem dX11_factor_31 : decode cX11_factor 31 = .ok (.if_icmp .ge 41, 3) := by decide +kernel
theorem dX11_factor_34 : decode cX11_factor 34 = .ok (.aload_n 0, 1) := by decide +kernel
theorem dX11_factor_35 : decode cX11_factor 35 = .ok (.getfield 57, 3) := by decide +kernel
theorem dX11_factor_38 : decode cX11_factor 38 = .ok (.bipush 8, 2) := by decide +kernel
theorem dX11_factor_40 : decode cX11_factor 40 = .ok (.iload_n 3, 1) := by decide +kernel
theorem dX11_factor_41 : decode cX11_factor 41 = .ok (.imul, 1) := by decide +kernel
theorem dX11_factor_42 : decode cX11_factor 42 = .ok (.laload, 1) := by decide +kernel
theorem dX11_factor_43 : decode cX11_factor 43 = .ok (.invokestatic 186, 3) := by decide +kernel
theorem dX11_factor_46 : decode cX11_factor 46 = .ok (.lstore 4, 2) := by decide +kernel
theorem dX11_factor_48 : decode cX11_factor 48 = .ok (.lload 4, 2) := by decide +kernel
theorem dX11_factor_50 : decode cX11_factor 50 = .ok (.lconst 1, 1) := by decide +kernel
theorem dX11_factor_51 : decode cX11_factor 51 = .ok (.lcmp, 1) := by decide +kernel
theorem dX11_factor_52 : decode cX11_factor 52 = .ok (.ifCond .le 14, 3) := by decide +kernel
theorem dX11_factor_55 : decode cX11_factor 55 = .ok (.iload_n 2, 1) := by decide +kernel
theorem dX11_factor_56 : decode cX11_factor 56 = .ok (.iload_n 1, 1) := by decide +kernel
theorem dX11_factor_57 : decode cX11_factor 57 = .ok (.if_icmp .ne 6, 3) := by decide +kernel
theorem dX11_factor_60 : decode cX11_factor 60 = .ok (.lload 4, 2) := by decide +kernel
theorem dX11_factor_62 : decode cX11_factor 62 = .ok (.lreturn, 1) := by decide +kernel
theorem dX11_factor_63 : decode cX11_factor 63 = .ok (.iinc 2 1, 3) := by decide +kernel
theorem dX11_factor_66 : decode cX11_factor 66 = .ok (.iinc 3 1, 3) := by decide +kernel
theorem dX11_factor_69 : decode cX11_factor 69 = .ok (.goto (-45), 3) := by decide +kernel
theorem dX11_factor_72 : decode cX11_factor 72 = .ok (.iload_n 1, 1) := by decide +kernel
theorem dX11_factor_73 : decode cX11_factor 73 = .ok (.ifCond .ge 8, 3) := by decide +kernel
theorem dX11_factor_76 : decode cX11_factor 76 = .ok (.iload_n 2, 1) := by decide +kernel
theorem dX11_factor_77 : decode cX11_factor 77 = .ok (.i2l, 1) := by decide +kernel
theorem dX11_factor_78 : decode cX11_factor 78 = .ok (.goto 6, 3) := by decide +kernel
theorem dX11_factor_81 : decode cX11_factor 81 = .ok (.invokestatic 213, 3) := by decide +kernel
theorem dX11_factor_84 : decode cX11_factor 84 = .ok (.lreturn, 1) := by decide +kernel
theorem dX11_identity_0 : decode cX11_identity 0 = .ok (.aload_n 0, 1) := by decide +kernel
theorem dX11_identity_1 : decode cX11_identity 1 = .ok (.iload_n 1, 1) := by decide +kernel
theorem dX11_identity_2 : decode cX11_identity 2 = .ok (.invokevirtual 130, 3) := by decide +kernel
theorem dX11_identity_5 : decode cX11_identity 5 = .ok (.ifCond .ne 7, 3) := by decide +kernel
theorem dX11_identity_8 : decode cX11_identity 8 = .ok (.sipush (-10001), 3) := by decide +kernel
theorem dX11_identity_11 : decode cX11_identity 11 = .ok (.ireturn, 1) := by decide +kernel
theorem dX11_identity_12 : decode cX11_identity 12 = .ok (.aload_n 0, 1) := by decide +kernel
theorem dX11_identity_13 : decode cX11_identity 13 = .ok (.invokevirtual 119, 3) := by decide +kernel
theorem dX11_identity_16 : decode cX11_identity 16 = .ok (.ifCond .ne 7, 3) := by decide +kernel
theorem dX11_identity_19 : decode cX11_identity 19 = .ok (.sipush (-10003), 3) := by decide +kernel
theorem dX11_identity_22 : decode cX11_identity 22 = .ok (.ireturn, 1) := by decide +kernel
theorem dX11_identity_23 : decode cX11_identity 23 = .ok (.iconst 0, 1) := by decide +kernel
theorem dX11_identity_24 : decode cX11_identity 24 = .ok (.istore_n 2, 1) := by decide +kernel
theorem dX11_identity_25 : decode cX11_identity 25 = .ok (.iload_n 2, 1) := by decide +kernel
theorem dX11_identity_26 : decode cX11_identity 26 = .ok (.bipush 8, 2) := by decide +kernel
theorem dX11_identity_28 : decode cX11_identity 28 = .ok (.if_icmp .ge 16, 3) := by decide +kernel
theorem dX11_identity_31 : decode cX11_identity 31 = .ok (.aload_n 0, 1) := by decide +kernel
theorem dX11_identity_32 : decode cX11_identity 32 = .ok (.getfield 45, 3) := by decide +kernel
theorem dX11_identity_35 : decode cX11_identity 35 = .ok (.iload_n 2, 1) := by decide +kernel
theorem dX11_identity_36 : decode cX11_identity 36 = .ok (.iconst 0, 1) := by decide +kernel
theorem dX11_identity_37 : decode cX11_identity 37 = .ok (.iastore, 1) := by decide +kernel
theorem dX11_identity_38 : decode cX11_identity 38 = .ok (.iinc 2 1, 3) := by decide +kernel
theorem dX11_identity_41 : decode cX11_identity 41 = .ok (.goto (-16), 3) := by decide +kernel
theorem dX11_identity_44 : decode cX11_identity 44 = .ok (.aload_n 0, 1) := by decide +kernel
theorem dX11_identity_45 : decode cX11_identity 45 = .ok (.aload_n 0, 1) := by decide +kernel
theorem dX11_identity_46 : decode cX11_identity 46 = .ok (.getfield 45, 3) := by decide +kernel
theorem dX11_identity_49 : decode cX11_identity 49 = .ok (.invokevirtual 170, 3) := by decide +kernel
theorem dX11_identity_52 : decode cX11_identity 52 = .ok (.aload_n 0, 1) := by decide +kernel
theorem dX11_identity_53 : decode cX11_identity 53 = .ok (.getfield 45, 3) := by decide +kernel
theorem dX11_identity_56 : decode cX11_identity 56 = .ok (.iload_n 1, 1) := by decide +kernel
theorem dX11_identity_57 : decode cX11_identity 57 = .ok (.iaload, 1) := by decide +kernel
theorem dX11_identity_58 : decode cX11_identity 58 = .ok (.ireturn, 1) := by decide +kernel
theorem dX11_order_0 : decode cX11_order 0 = .ok (.aload_n 0, 1) := by decide +kernel
theorem dX11_order_1 : decode cX11_order 1 = .ok (.invokevirtual 119, 3) := by decide +kernel
theorem dX11_order_4 : decode cX11_order 4 = .ok (.ifCond .ne 7, 3) := by decide +kernel
theorem dX11_order_7 : decode cX11_order 7 = .ok (.sipush (-10003), 3) := by decide +kernel
theorem dX11_order_10 : decode cX11_order 10 = .ok (.ireturn, 1) := by decide +kernel
theorem dX11_order_11 : decode cX11_order 11 = .ok (.aload_n 0, 1) := by decide +kernel
theorem dX11_order_12 : decode cX11_order 12 = .ok (.aload_n 0, 1) := by decide +kernel
theorem dX11_order_13 : decode cX11_order 13 = .ok (.getfield 22, 3) := by decide +kernel
theorem dX11_order_16 : decode cX11_order 16 = .ok (.aload_n 0, 1) := by decide +kernel
theorem dX11_order_17 : decode cX11_order 17 = .ok (.getfield 54, 3) := by decide +kernel
theorem dX11_order_20 : decode cX11_order 20 = .ok (.invokevirtual 148, 3) := by decide +kernel
theorem dX11_order_23 : decode cX11_order 23 = .ok (.aload_n 0, 1) := by decide +kernel
theorem dX11_order_24 : decode cX11_order 24 = .ok (.aload_n 0, 1) := by decide +kernel
theorem dX11_order_25 : decode cX11_order 25 = .ok (.getfield 54, 3) := by decide +kernel
theorem dX11_order_28 : decode cX11_order 28 = .ok (.invokevirtual 167, 3) := by decide +kernel
theorem dX11_order_31 : decode cX11_order 31 = .ok (.pop, 1) := by decide +kernel
theorem dX11_order_32 : decode cX11_order 32 = .ok (.aload_n 0, 1) := by decide +kernel
theorem dX11_order_33 : decode cX11_order 33 = .ok (.aload_n 0, 1) := by decide +kernel
theorem dX11_order_34 : decode cX11_order 34 = .ok (.getfield 54, 3) := by decide +kernel
theorem dX11_order_37 : decode cX11_order 37 = .ok (.aload_n 0, 1) := by decide +kernel
theorem dX11_order_38 : decode cX11_order 38 = .ok (.getfield 45, 3) := by decide +kernel
theorem dX11_order_41 : decode cX11_order 41 = .ok (.invokevirtual 148, 3) := by decide +kernel
theorem dX11_order_44 : decode cX11_order 44 = .ok (.iconst 1, 1) := by decide +kernel
theorem dX11_order_45 : decode cX11_order 45 = .ok (.istore_n 1, 1) := by decide +kernel
theorem dX11_order_46 : decode cX11_order 46 = .ok (.aload_n 0, 1) := by decide +kernel
theorem dX11_order_47 : decode cX11_order 47 = .ok (.getfield 45, 3) := by decide +kernel
theorem dX11_order_50 : decode cX11_order 50 = .ok (.invokestatic 217, 3) := by decide +kernel
theorem dX11_order_53 : decode cX11_order 53 = .ok (.istore_n 2, 1) := by decide +kernel
theorem dX11_order_54 : decode cX11_order 54 = .ok (.iload_n 2, 1) := by decide +kernel
theorem dX11_order_55 : decode cX11_order 55 = .ok (.ifCond .ne 55, 3) := by decide +kernel
theorem dX11_order_58 : decode cX11_order 58 = .ok (.iconst 0, 1) := by decide +kernel
theorem dX11_order_59 : decode cX11_order 59 = .ok (.istore_n 3, 1) := by decide +kernel
theorem dX11_order_60 : decode cX11_order 60 = .ok (.iload_n 3, 1) := by decide +kernel
theorem dX11_order_61 : decode cX11_order 61 = .ok (.bipush 8, 2) := by decide +kernel
theorem dX11_order_63 : decode cX11_order 63 = .ok (.if_icmp .ge 24, 3) := by decide +kernel
theorem dX11_order_66 : decode cX11_order 66 = .ok (.aload_n 0, 1) := by decide +kernel
theorem dX11_order_67 : decode cX11_order 67 = .ok (.getfield 45, 3) := by decide +kernel
theorem dX11_order_70 : decode cX11_order 70 = .ok (.iload_n 3, 1) := by decide +kernel
theorem dX11_order_71 : decode cX11_order 71 = .ok (.dup2, 1) := by decide +kernel
theorem dX11_order_72 : decode cX11_order 72 = .ok (.iaload, 1) := by decide +kernel
theorem dX11_order_73 : decode cX11_order 73 = .ok (.aload_n 0, 1) := by decide +kernel
theorem dX11_order_74 : decode cX11_order 74 = .ok (.getfield 54, 3) := by decide +kernel
theorem dX11_order_77 : decode cX11_order 77 = .ok (.iload_n 3, 1) := by decide +kernel
theorem dX11_order_78 : decode cX11_order 78 = .ok (.iaload, 1) := by decide +kernel
theorem dX11_order_79 : decode cX11_order 79 = .ok (.iadd, 1) := by decide +kernel
theorem dX11_order_80 : decode cX11_order 80 = .ok (.iastore, 1) := by decide +kernel
theorem dX11_order_81 : decode cX11_order 81 = .ok (.iinc 3 1, 3) := by decide +kernel
theorem dX11_order_84 : decode cX11_order 84 = .ok (.goto (-24), 3) := by decide +kernel
theorem dX11_order_87 : decode cX11_order 87 = .ok (.aload_n 0, 1) := by decide +kernel
theorem dX11_order_88 : decode cX11_order 88 = .ok (.aload_n 0, 1) := by decide +kernel
theorem dX11_order_89 : decode cX11_order 89 = .ok (.getfield 45, 3) := by decide +kernel
theorem dX11_order_92 : decode cX11_order 92 = .ok (.invokevirtual 167, 3) := by decide +kernel
theorem dX11_order_95 : decode cX11_order 95 = .ok (.pop, 1) := by decide +kernel
theorem dX11_order_96 : decode cX11_order 96 = .ok (.iinc 1 1, 3) := by decide +kernel
theorem dX11_order_99 : decode cX11_order 99 = .ok (.aload_n 0, 1) := by decide +kernel
theorem dX11_order_100 : decode cX11_order 100 = .ok (.getfield 45, 3) := by decide +kernel
theorem dX11_order_103 : decode cX11_order 103 = .ok (.invokestatic 217, 3) := by decide +kernel
theorem dX11_order_106 : decode cX11_order 106 = .ok (.istore_n 2, 1) := by decide +kernel
theorem dX11_order_107 : decode cX11_order 107 = .ok (.goto (-53), 3) := by decide +kernel
theorem dX11_order_110 : decode cX11_order 110 = .ok (.iload_n 1, 1) := by decide +kernel
theorem dX11_order_111 : decode cX11_order 111 = .ok (.ireturn, 1) := by decide +kernel
theorem dX11_isEmpty_0 : decode cX11_isEmpty 0 = .ok (.iconst 0, 1) := by decide +kernel
theorem dX11_isEmpty_1 : decode cX11_isEmpty 1 = .ok (.istore_n 1, 1) := by decide +kernel
theorem dX11_isEmpty_2 : decode cX11_isEmpty 2 = .ok (.iconst 0, 1) := by decide +kernel
theorem dX11_isEmpty_3 : decode cX11_isEmpty 3 = .ok (.istore_n 2, 1) := by decide +kernel
theorem dX11_isEmpty_4 : decode cX11_isEmpty 4 = .ok (.iload_n 2, 1) := by decide +kernel
theorem dX11_isEmpty_5 : decode cX11_isEmpty 5 = .ok (.bipush 8, 2) := by decide +kernel
theorem dX11_isEmpty_7 : decode cX11_isEmpty 7 = .ok (.if_icmp .ge 15, 3) := by decide +kernel
theorem dX11_isEmpty_10 : decode cX11_isEmpty 10 = .ok (.iload_n 1, 1) := by decide +kernel
theorem dX11_isEmpty_11 : decode cX11_isEmpty 11 = .ok (.aload_n 0, 1) := by decide +kernel
theorem dX11_isEmpty_12 : decode cX11_isEmpty 12 = .ok (.iload_n 2, 1) := by decide +kernel
theorem dX11_isEmpty_13 : decode cX11_isEmpty 13 = .ok (.iaload, 1) := by decide +kernel
theorem dX11_isEmpty_14 : decode cX11_isEmpty 14 = .ok (.iadd, 1) := by decide +kernel
theorem dX11_isEmpty_15 : decode cX11_isEmpty 15 = .ok (.istore_n 1, 1) := by decide +kernel
theorem dX11_isEmpty_16 : decode cX11_isEmpty 16 = .ok (.iinc 2 1, 3) := by decide +kernel
theorem dX11_isEmpty_19 : decode cX11_isEmpty 19 = .ok (.goto (-15), 3) := by decide +kernel
theorem dX11_isEmpty_22 : decode cX11_isEmpty 22 = .ok (.iload_n 1, 1) := by decide +kernel
theorem dX11_isEmpty_23 : decode cX11_isEmpty 23 = .ok (.ifCond .ne 7, 3) := by decide +kernel
theorem dX11_isEmpty_26 : decode cX11_isEmpty 26 = .ok (.iconst 1, 1) := by decide +kernel
theorem dX11_isEmpty_27 : decode cX11_isEmpty 27 = .ok (.goto 4, 3) := by decide +kernel
theorem dX11_isEmpty_30 : decode cX11_isEmpty 30 = .ok (.iconst 0, 1) := by decide +kernel
theorem dX11_isEmpty_31 : decode cX11_isEmpty 31 = .ok (.ireturn, 1) := by decide +kernel
theorem dX11_level_0 : decode cX11_level 0 = .ok (.aload_n 0, 1) := by decide +kernel
theorem dX11_level_1 : decode cX11_level 1 = .ok (.aload_n 0, 1) := by decide +kernel
theorem dX11_level_2 : decode cX11_level 2 = .ok (.getfield 22, 3) := by decide +kernel
theorem dX11_level_5 : decode cX11_level 5 = .ok (.invokevirtual 177, 3) := by decide +kernel
theorem dX11_level_8 : decode cX11_level 8 = .ok (.ifCond .eq 15, 3) := by decide +kernel
theorem dX11_level_11 : decode cX11_level 11 = .ok (.aload_n 0, 1) := by decide +kernel
theorem dX11_level_12 : decode cX11_level 12 = .ok (.invokevirtual 123, 3) := by decide +kernel
theorem dX11_level_15 : decode cX11_level 15 = .ok (.aload_n 0, 1) := by decide +kernel
theorem dX11_level_16 : decode cX11_level 16 = .ok (.invokevirtual 127, 3) := by decide +kernel
theorem dX11_level_19 : decode cX11_level 19 = .ok (.isub, 1) := by decide +kernel
theorem dX11_level_20 : decode cX11_level 20 = .ok (.goto 6, 3) := by decide +kernel
theorem dX11_level_23 : decode cX11_level 23 = .ok (.sipush (-10004), 3) := by decide +kernel
theorem dX11_level_26 : decode cX11_level 26 = .ok (.ireturn, 1) := by decide +kernel
theorem dX11_countLevels_0 : decode cX11_countLevels 0 = .ok (.iconst 0, 1) := by decide +kernel
theorem dX11_countLevels_1 : decode cX11_countLevels 1 = .ok (.istore_n 1, 1) := by decide +kernel
theorem dX11_countLevels_2 : decode cX11_countLevels 2 = .ok (.iload_n 1, 1) := by decide +kernel
theorem dX11_countLevels_3 : decode cX11_countLevels 3 = .ok (.bipush 64, 2) := by decide +kernel
theorem dX11_countLevels_5 : decode cX11_countLevels 5 = .ok (.if_icmp .ge 16, 3) := by decide +kernel
theorem dX11_countLevels_8 : decode cX11_countLevels 8 = .ok (.aload_n 0, 1) := by decide +kernel
theorem dX11_countLevels_9 : decode cX11_countLevels 9 = .ok (.getfield 61, 3) := by decide +kernel
theorem dX11_countLevels_12 : decode cX11_countLevels 12 = .ok (.iload_n 1, 1) := by decide +kernel
theorem dX11_countLevels_13 : decode cX11_countLevels 13 = .ok (.iconst 0, 1) := by decide +kernel
theorem dX11_countLevels_14 : decode cX11_countLevels 14 = .ok (.iastore, 1) := by decide +kernel
theorem dX11_countLevels_15 : decode cX11_countLevels 15 = .ok (.iinc 1 1, 3) := by decide +kernel
theorem dX11_countLevels_18 : decode cX11_countLevels 18 = .ok (.goto (-16), 3) := by decide +kernel
theorem dX11_countLevels_21 : decode cX11_countLevels 21 = .ok (.iconst 1, 1) := by decide +kernel
theorem dX11_countLevels_22 : decode cX11_countLevels 22 = .ok (.istore_n 1, 1) := by decide +kernel
theorem dX11_countLevels_23 : decode cX11_countLevels 23 = .ok (.iconst 0, 1) := by decide +kernel
theorem dX11_countLevels_24 : decode cX11_countLevels 24 = .ok (.istore_n 2, 1) := by decide +kernel
theorem dX11_countLevels_25 : decode cX11_countLevels 25 = .ok (.iload_n 2, 1) := by decide +kernel
theorem dX11_countLevels_26 : decode cX11_countLevels 26 = .ok (.aload_n 0, 1) := by decide +kernel
theorem dX11_countLevels_27 : decode cX11_countLevels 27 = .ok (.getfield 77, 3) := by decide +kernel
theorem dX11_countLevels_30 : decode cX11_countLevels 30 = .ok (.if_icmp .ge 30, 3) := by decide +kernel
theorem dX11_countLevels_33 : decode cX11_countLevels 33 = .ok (.iload_n 1, 1) := by decide +kernel
theorem dX11_countLevels_34 : decode cX11_countLevels 34 = .ok (.iload_n 2, 1) := by decide +kernel
theorem dX11_countLevels_35 : decode cX11_countLevels 35 = .ok (.aload_n 0, 1) := by decide +kernel
theorem dX11_countLevels_36 : decode cX11_countLevels 36 = .ok (.getfield 84, 3) := by decide +kernel
theorem dX11_countLevels_39 : decode cX11_countLevels 39 = .ok (.if_icmp .ne 7, 3) := by decide +kernel
theorem dX11_countLevels_42 : decode cX11_countLevels 42 = .ok (.iconst 1, 1) := by decide +kernel
theorem dX11_countLevels_43 : decode cX11_countLevels 43 = .ok (.goto 9, 3) := by decide +kernel
theorem dX11_countLevels_46 : decode cX11_countLevels 46 = .ok (.aload_n 0, 1) := by decide +kernel
theorem dX11_countLevels_47 : decode cX11_countLevels 47 = .ok (.getfield 19, 3) := by decide +kernel
theorem dX11_countLevels_50 : decode cX11_countLevels 50 = .ok (.iload_n 2, 1) := by decide +kernel
theorem dX11_countLevels_51 : decode cX11_countLevels 51 = .ok (.iaload, 1) := by decide +kernel
theorem dX11_countLevels_52 : decode cX11_countLevels 52 = .ok (.imul, 1) := by decide +kernel
theorem dX11_countLevels_53 : decode cX11_countLevels 53 = .ok (.istore_n 1, 1) := by decide +kernel
theorem dX11_countLevels_54 : decode cX11_countLevels 54 = .ok (.iinc 2 1, 3) := by decide +kernel
theorem dX11_countLevels_57 : decode cX11_countLevels 57 = .ok (.goto (-32), 3) := by decide +kernel
theorem dX11_countLevels_60 : decode cX11_countLevels 60 = .ok (.iconst 0, 1) := by decide +kernel
theorem dX11_countLevels_61 : decode cX11_countLevels 61 = .ok (.istore_n 2, 1) := by decide +kernel
theorem dX11_countLevels_62 : decode cX11_countLevels 62 = .ok (.iload_n 2, 1) := by decide +kernel
theorem dX11_countLevels_63 : decode cX11_countLevels 63 = .ok (.iload_n 1, 1) := by decide +kernel
theorem dX11_countLevels_64 : decode cX11_countLevels 64 = .ok (.if_icmp .ge 156, 3) := by decide +kernel
theorem dX11_countLevels_67 : decode cX11_countLevels 67 = .ok (.iload_n 2, 1) := by decide +kernel
theorem dX11_countLevels_68 : decode cX11_countLevels 68 = .ok (.istore_n 3, 1) := by decide +kernel
theorem dX11_countLevels_69 : decode cX11_countLevels 69 = .ok (.iconst 0, 1) := by decide +kernel
theorem dX11_countLevels_70 : decode cX11_countLevels 70 = .ok (.istore 4, 2) := by decide +kernel
theorem dX11_countLevels_72 : decode cX11_countLevels 72 = .ok (.iconst 0, 1) := by decide +kernel
theorem dX11_countLevels_73 : decode cX11_countLevels 73 = .ok (.istore 5, 2) := by decide +kernel
theorem dX11_countLevels_75 : decode cX11_countLevels 75 = .ok (.iload 5, 2) := by decide +kernel
theorem dX11_countLevels_77 : decode cX11_countLevels 77 = .ok (.bipush 8, 2) := by decide +kernel
theorem dX11_countLevels_79 : decode cX11_countLevels 79 = .ok (.if_icmp .ge 90, 3) := by decide +kernel
theorem dX11_countLevels_82 : decode cX11_countLevels 82 = .ok (.iload 5, 2) := by decide +kernel
theorem dX11_countLevels_84 : decode cX11_countLevels 84 = .ok (.aload_n 0, 1) := by decide +kernel
theorem dX11_countLevels_85 : decode cX11_countLevels 85 = .ok (.getfield 77, 3) := by decide +kernel
theorem dX11_countLevels_88 : decode cX11_countLevels 88 = .ok (.if_icmp .ge 16, 3) := by decide +kernel
theorem dX11_countLevels_91 : decode cX11_countLevels 91 = .ok (.iload 5, 2) := by decide +kernel
theorem dX11_countLevels_93 : decode cX11_countLevels 93 = .ok (.aload_n 0, 1) := by decide +kernel
theorem dX11_countLevels_94 : decode cX11_countLevels 94 = .ok (.getfield 84, 3) := by decide +kernel
theorem dX11_countLevels_97 : decode cX11_countLevels 97 = .ok (.if_icmp .eq 7, 3) := by decide +kernel
theorem dX11_countLevels_100 : decode cX11_countLevels 100 = .ok (.iconst 1, 1) := by decide +kernel
theorem dX11_countLevels_101 : decode cX11_countLevels 101 = .ok (.goto 4, 3) := by decide +kernel
theorem dX11_countLevels_104 : decode cX11_countLevels 104 = .ok (.iconst 0, 1) := by decide +kernel
theorem dX11_countLevels_105 : decode cX11_countLevels 105 = .ok (.istore 6, 2) := by decide +kernel
theorem dX11_countLevels_107 : decode cX11_countLevels 107 = .ok (.aload_n 0, 1) := by decide +kernel
theorem dX11_countLevels_108 : decode cX11_countLevels 108 = .ok (.getfield 45, 3) := by decide +kernel
theorem dX11_countLevels_111 : decode cX11_countLevels 111 = .ok (.iload 5, 2) := by decide +kernel
theorem dX11_countLevels_113 : decode cX11_countLevels 113 = .ok (.iload 6, 2) := by decide +kernel
theorem dX11_countLevels_115 : decode cX11_countLevels 115 = .ok (.ifCond .eq 15, 3) := by decide +kernel
theorem dX11_countLevels_118 : decode cX11_countLevels 118 = .ok (.iload_n 3, 1) := by decide +kernel
theorem dX11_countLevels_119 : decode cX11_countLevels 119 = .ok (.aload_n 0, 1) := by decide +kernel
theorem dX11_countLevels_120 : decode cX11_countLevels 120 = .ok (.getfield 19, 3) := by decide +kernel
theorem dX11_countLevels_123 : decode cX11_countLevels 123 = .ok (.iload 5, 2) := by decide +kernel
theorem dX11_countLevels_125 : decode cX11_countLevels 125 = .ok (.iaload, 1) := by decide +kernel
theorem dX11_countLevels_126 : decode cX11_countLevels 126 = .ok (.irem, 1) := by decide +kernel
theorem dX11_countLevels_127 : decode cX11_countLevels 127 = .ok (.goto 4, 3) := by decide +kernel
theorem dX11_countLevels_130 : decode cX11_countLevels 130 = .ok (.iconst 0, 1) := by decide +kernel
theorem dX11_countLevels_131 : decode cX11_countLevels 131 = .ok (.iastore, 1) := by decide +kernel
theorem dX11_countLevels_132 : decode cX11_countLevels 132 = .ok (.iload 6, 2) := by decide +kernel
theorem dX11_countLevels_134 : decode cX11_countLevels 134 = .ok (.ifCond .eq 15, 3) := by decide +kernel
theorem dX11_countLevels_137 : decode cX11_countLevels 137 = .ok (.iload_n 3, 1) := by decide +kernel
theorem dX11_countLevels_138 : decode cX11_countLevels 138 = .ok (.aload_n 0, 1) := by decide +kernel
theorem dX11_countLevels_139 : decode cX11_countLevels 139 = .ok (.getfield 19, 3) := by decide +kernel
theorem dX11_countLevels_142 : decode cX11_countLevels 142 = .ok (.iload 5, 2) := by decide +kernel
theorem dX11_countLevels_144 : decode cX11_countLevels 144 = .ok (.iaload, 1) := by decide +kernel
theorem dX11_countLevels_145 : decode cX11_countLevels 145 = .ok (.idiv, 1) := by decide +kernel
theorem dX11_countLevels_146 : decode cX11_countLevels 146 = .ok (.goto 4, 3) := by decide +kernel
theorem dX11_countLevels_149 : decode cX11_countLevels 149 = .ok (.iload_n 3, 1) := by decide +kernel
theorem dX11_countLevels_150 : decode cX11_countLevels 150 = .ok (.istore_n 3, 1) := by decide +kernel
theorem dX11_countLevels_151 : decode cX11_countLevels 151 = .ok (.iload 4, 2) := by decide +kernel
theorem dX11_countLevels_153 : decode cX11_countLevels 153 = .ok (.aload_n 0, 1) := by decide +kernel
theorem dX11_countLevels_154 : decode cX11_countLevels 154 = .ok (.getfield 45, 3) := by decide +kernel
theorem dX11_countLevels_157 : decode cX11_countLevels 157 = .ok (.iload 5, 2) := by decide +kernel
theorem dX11_countLevels_159 : decode cX11_countLevels 159 = .ok (.iaload, 1) := by decide +kernel
theorem dX11_countLevels_160 : decode cX11_countLevels 160 = .ok (.iadd, 1) := by decide +kernel
theorem dX11_countLevels_161 : decode cX11_countLevels 161 = .ok (.istore 4, 2) := by decide +kernel
theorem dX11_countLevels_163 : decode cX11_countLevels 163 = .ok (.iinc 5 1, 3) := by decide +kernel
theorem dX11_countLevels_166 : decode cX11_countLevels 166 = .ok (.goto (-91), 3) := by decide +kernel
theorem dX11_countLevels_169 : decode cX11_countLevels 169 = .ok (.iload 4, 2) := by decide +kernel
theorem dX11_countLevels_171 : decode cX11_countLevels 171 = .ok (.aload_n 0, 1) := by decide +kernel
theorem dX11_countLevels_172 : decode cX11_countLevels 172 = .ok (.invokevirtual 127, 3) := by decide +kernel
theorem dX11_countLevels_175 : decode cX11_countLevels 175 = .ok (.if_icmp .lt 39, 3) := by decide +kernel
theorem dX11_countLevels_178 : decode cX11_countLevels 178 = .ok (.aload_n 0, 1) := by decide +kernel
theorem dX11_countLevels_179 : decode cX11_countLevels 179 = .ok (.aload_n 0, 1) := by decide +kernel
theorem dX11_countLevels_180 : decode cX11_countLevels 180 = .ok (.getfield 45, 3) := by decide +kernel
theorem dX11_countLevels_183 : decode cX11_countLevels 183 = .ok (.iconst 0, 1) := by decide +kernel
theorem dX11_countLevels_184 : decode cX11_countLevels 184 = .ok (.invokevirtual 152, 3) := by decide +kernel
theorem dX11_countLevels_187 : decode cX11_countLevels 187 = .ok (.aload_n 0, 1) := by decide +kernel
theorem dX11_countLevels_188 : decode cX11_countLevels 188 = .ok (.getfield 61, 3) := by decide +kernel
theorem dX11_countLevels_191 : decode cX11_countLevels 191 = .ok (.iload 4, 2) := by decide +kernel
theorem dX11_countLevels_193 : decode cX11_countLevels 193 = .ok (.aload_n 0, 1) := by decide +kernel
theorem dX11_countLevels_194 : decode cX11_countLevels 194 = .ok (.invokevirtual 127, 3) := by decide +kernel
theorem dX11_countLevels_197 : decode cX11_countLevels 197 = .ok (.isub, 1) := by decide +kernel
theorem dX11_countLevels_198 : decode cX11_countLevels 198 = .ok (.dup2, 1) := by decide +kernel
theorem dX11_countLevels_199 : decode cX11_countLevels 199 = .ok (.iaload, 1) := by decide +kernel
theorem dX11_countLevels_200 : decode cX11_countLevels 200 = .ok (.aload_n 0, 1) := by decide +kernel
theorem dX11_countLevels_201 : decode cX11_countLevels 201 = .ok (.invokevirtual 156, 3) := by decide +kernel
theorem dX11_countLevels_204 : decode cX11_countLevels 204 = .ok (.ifCond .eq 7, 3) := by decide +kernel
theorem dX11_countLevels_207 : decode cX11_countLevels 207 = .ok (.iconst 1, 1) := by decide +kernel
theorem dX11_countLevels_208 : decode cX11_countLevels 208 = .ok (.goto 4, 3) := by decide +kernel
theorem dX11_countLevels_211 : decode cX11_countLevels 211 = .ok (.iconst 0, 1) := by decide +kernel
theorem dX11_countLevels_212 : decode cX11_countLevels 212 = .ok (.iadd, 1) := by decide +kernel
theorem dX11_countLevels_213 : decode cX11_countLevels 213 = .ok (.iastore, 1) := by decide +kernel
theorem dX11_countLevels_214 : decode cX11_countLevels 214 = .ok (.iinc 2 1, 3) := by decide +kernel
theorem dX11_countLevels_217 : decode cX11_countLevels 217 = .ok (.goto (-155), 3) := by decide +kernel
theorem dX11_countLevels_220 : decode cX11_countLevels 220 = .ok (.aload_n 0, 1) := by decide +kernel
theorem dX11_countLevels_221 : decode cX11_countLevels 221 = .ok (.iconst 1, 1) := by decide +kernel
theorem dX11_countLevels_222 : decode cX11_countLevels 222 = .ok (.putfield 93, 3) := by decide +kernel
theorem dX11_countLevels_225 : decode cX11_countLevels 225 = .ok (.return_, 1) := by decide +kernel
theorem dX11_levelCount_0 : decode cX11_levelCount 0 = .ok (.iload_n 1, 1) := by decide +kernel
theorem dX11_levelCount_1 : decode cX11_levelCount 1 = .ok (.ifCond .ge 7, 3) := by decide +kernel
theorem dX11_levelCount_4 : decode cX11_levelCount 4 = .ok (.sipush (-10002), 3) := by decide +kernel
theorem dX11_levelCount_7 : decode cX11_levelCount 7 = .ok (.ireturn, 1) := by decide +kernel
theorem dX11_levelCount_8 : decode cX11_levelCount 8 = .ok (.aload_n 0, 1) := by decide +kernel
theorem dX11_levelCount_9 : decode cX11_levelCount 9 = .ok (.invokevirtual 119, 3) := by decide +kernel
theorem dX11_levelCount_12 : decode cX11_levelCount 12 = .ok (.ifCond .ne 7, 3) := by decide +kernel
theorem dX11_levelCount_15 : decode cX11_levelCount 15 = .ok (.sipush (-10003), 3) := by decide +kernel
theorem dX11_levelCount_18 : decode cX11_levelCount 18 = .ok (.ireturn, 1) := by decide +kernel
theorem dX11_levelCount_19 : decode cX11_levelCount 19 = .ok (.aload_n 0, 1) := by decide +kernel
theorem dX11_levelCount_20 : decode cX11_levelCount 20 = .ok (.getfield 93, 3) := by decide +kernel
theorem dX11_levelCount_23 : decode cX11_levelCount 23 = .ok (.ifCond .ne 7, 3) := by decide +kernel
theorem dX11_levelCount_26 : decode cX11_levelCount 26 = .ok (.aload_n 0, 1) := by decide +kernel
theorem dX11_levelCount_27 : decode cX11_levelCount 27 = .ok (.invokevirtual 220, 3) := by decide +kernel
theorem dX11_levelCount_30 : decode cX11_levelCount 30 = .ok (.iload_n 1, 1) := by decide +kernel
theorem dX11_levelCount_31 : decode cX11_levelCount 31 = .ok (.bipush 64, 2) := by decide +kernel
theorem dX11_levelCount_33 : decode cX11_levelCount 33 = .ok (.if_icmp .ge 12, 3) := by decide +kernel
theorem dX11_levelCount_36 : decode cX11_levelCount 36 = .ok (.aload_n 0, 1) := by decide +kernel
theorem dX11_levelCount_37 : decode cX11_levelCount 37 = .ok (.getfield 61, 3) := by decide +kernel
theorem dX11_levelCount_40 : decode cX11_levelCount 40 = .ok (.iload_n 1, 1) := by decide +kernel
theorem dX11_levelCount_41 : decode cX11_levelCount 41 = .ok (.iaload, 1) := by decide +kernel
theorem dX11_levelCount_42 : decode cX11_levelCount 42 = .ok (.goto 4, 3) := by decide +kernel
theorem dX11_levelCount_45 : decode cX11_levelCount 45 = .ok (.iconst 0, 1) := by decide +kernel
theorem dX11_levelCount_46 : decode cX11_levelCount 46 = .ok (.ireturn, 1) := by decide +kernel
theorem dX11_follow_0 : decode cX11_follow 0 = .ok (.iconst 1, 1) := by decide +kernel
theorem dX11_follow_1 : decode cX11_follow 1 = .ok (.aload_n 0, 1) := by decide +kernel
theorem dX11_follow_2 : decode cX11_follow 2 = .ok (.getfield 84, 3) := by decide +kernel
theorem dX11_follow_5 : decode cX11_follow 5 = .ok (.ishl, 1) := by decide +kernel
theorem dX11_follow_6 : decode cX11_follow 6 = .ok (.istore_n 2, 1) := by decide +kernel
theorem dX11_follow_7 : decode cX11_follow 7 = .ok (.iconst 0, 1) := by decide +kernel
theorem dX11_follow_8 : decode cX11_follow 8 = .ok (.istore_n 3, 1) := by decide +kernel
theorem dX11_follow_9 : decode cX11_follow 9 = .ok (.iconst 0, 1) := by decide +kernel
theorem dX11_follow_10 : decode cX11_follow 10 = .ok (.istore 4, 2) := by decide +kernel
theorem dX11_follow_12 : decode cX11_follow 12 = .ok (.iconst 0, 1) := by decide +kernel
theorem dX11_follow_13 : decode cX11_follow 13 = .ok (.istore 5, 2) := by decide +kernel
theorem dX11_follow_15 : decode cX11_follow 15 = .ok (.iload 5, 2) := by decide +kernel
theorem dX11_follow_17 : decode cX11_follow 17 = .ok (.bipush 8, 2) := by decide +kernel
theorem dX11_follow_19 : decode cX11_follow 19 = .ok (.if_icmp .ge 17, 3) := by decide +kernel
theorem dX11_follow_22 : decode cX11_follow 22 = .ok (.aload_n 0, 1) := by decide +kernel
theorem dX11_follow_23 : decode cX11_follow 23 = .ok (.getfield 64, 3) := by decide +kernel
theorem dX11_follow_26 : decode cX11_follow 26 = .ok (.iload 5, 2) := by decide +kernel
theorem dX11_follow_28 : decode cX11_follow 28 = .ok (.iconst 0, 1) := by decide +kernel
theorem dX11_follow_29 : decode cX11_follow 29 = .ok (.iastore, 1) := by decide +kernel
theorem dX11_follow_30 : decode cX11_follow 30 = .ok (.iinc 5 1, 3) := by decide +kernel
theorem dX11_follow_33 : decode cX11_follow 33 = .ok (.goto (-18), 3) := by decide +kernel
theorem dX11_follow_36 : decode cX11_follow 36 = .ok (.iconst 1, 1) := by decide +kernel
theorem dX11_follow_37 : decode cX11_follow 37 = .ok (.istore 5, 2) := by decide +kernel
theorem dX11_follow_39 : decode cX11_follow 39 = .ok (.iload 5, 2) := by decide +kernel
theorem dX11_follow_41 : decode cX11_follow 41 = .ok (.ifCond .eq 234, 3) := by decide +kernel
theorem dX11_follow_44 : decode cX11_follow 44 = .ok (.iload_n 2, 1) := by decide +kernel
theorem dX11_follow_45 : decode cX11_follow 45 = .ok (.iconst 1, 1) := by decide +kernel
theorem dX11_follow_46 : decode cX11_follow 46 = .ok (.aload_n 0, 1) := by decide +kernel
theorem dX11_follow_47 : decode cX11_follow 47 = .ok (.getfield 77, 3) := by decide +kernel
theorem dX11_follow_50 : decode cX11_follow 50 = .ok (.ishl, 1) := by decide +kernel
theorem dX11_follow_51 : decode cX11_follow 51 = .ok (.iconst 1, 1) := by decide +kernel
theorem dX11_follow_52 : decode cX11_follow 52 = .ok (.isub, 1) := by decide +kernel
theorem dX11_follow_53 : decode cX11_follow 53 = .ok (.if_icmp .eq 222, 3) := by decide +kernel
theorem dX11_follow_56 : decode cX11_follow 56 = .ok (.iconst 0, 1) := by decide +kernel
theorem dX11_follow_57 : decode cX11_follow 57 = .ok (.istore 6, 2) := by decide +kernel
theorem dX11_follow_59 : decode cX11_follow 59 = .ok (.iload 6, 2) := by decide +kernel
theorem dX11_follow_61 : decode cX11_follow 61 = .ok (.aload_n 0, 1) := by decide +kernel
theorem dX11_follow_62 : decode cX11_follow 62 = .ok (.getfield 81, 3) := by decide +kernel
theorem dX11_follow_65 : decode cX11_follow 65 = .ok (.if_icmp .ge 44, 3) := by decide +kernel
theorem dX11_follow_68 : decode cX11_follow 68 = .ok (.iload_n 3, 1) := by decide +kernel
theorem dX11_follow_69 : decode cX11_follow 69 = .ok (.iload 6, 2) := by decide +kernel
theorem dX11_follow_71 : decode cX11_follow 71 = .ok (.ishr, 1) := by decide +kernel
theorem dX11_follow_72 : decode cX11_follow 72 = .ok (.iconst 1, 1) := by decide +kernel
theorem dX11_follow_73 : decode cX11_follow 73 = .ok (.iand, 1) := by decide +kernel
theorem dX11_follow_74 : decode cX11_follow 74 = .ok (.iconst 1, 1) := by decide +kernel
theorem dX11_follow_75 : decode cX11_follow 75 = .ok (.if_icmp .eq 28, 3) := by decide +kernel
theorem dX11_follow_78 : decode cX11_follow 78 = .ok (.iload_n 2, 1) := by decide +kernel
theorem dX11_follow_79 : decode cX11_follow 79 = .ok (.aload_n 0, 1) := by decide +kernel
theorem dX11_follow_80 : decode cX11_follow 80 = .ok (.getfield 7, 3) := by decide +kernel
theorem dX11_follow_83 : decode cX11_follow 83 = .ok (.iload 6, 2) := by decide +kernel
theorem dX11_follow_85 : decode cX11_follow 85 = .ok (.iaload, 1) := by decide +kernel
theorem dX11_follow_86 : decode cX11_follow 86 = .ok (.ishr, 1) := by decide +kernel
theorem dX11_follow_87 : decode cX11_follow 87 = .ok (.iconst 1, 1) := by decide +kernel
theorem dX11_follow_88 : decode cX11_follow 88 = .ok (.iand, 1) := by decide +kernel
theorem dX11_follow_89 : decode cX11_follow 89 = .ok (.iload_n 2, 1) := by decide +kernel
theorem dX11_follow_90 : decode cX11_follow 90 = .ok (.aload_n 0, 1) := by decide +kernel
theorem dX11_follow_91 : decode cX11_follow 91 = .ok (.getfield 13, 3) := by decide +kernel
theorem dX11_follow_94 : decode cX11_follow 94 = .ok (.iload 6, 2) := by decide +kernel
theorem dX11_follow_96 : decode cX11_follow 96 = .ok (.iaload, 1) := by decide +kernel
theorem dX11_follow_97 : decode cX11_follow 97 = .ok (.ishr, 1) := by decide +kernel
theorem dX11_follow_98 : decode cX11_follow 98 = .ok (.iconst 1, 1) := by decide +kernel
theorem dX11_follow_99 : decode cX11_follow 99 = .ok (.iand, 1) := by decide +kernel
theorem dX11_follow_100 : decode cX11_follow 100 = .ok (.if_icmp .ne 9, 3) := by decide +kernel
theorem dX11_follow_103 : decode cX11_follow 103 = .ok (.iinc 6 1, 3) := by decide +kernel
theorem dX11_follow_106 : decode cX11_follow 106 = .ok (.goto (-47), 3) := by decide +kernel
theorem dX11_follow_109 : decode cX11_follow 109 = .ok (.iload 6, 2) := by decide +kernel
theorem dX11_follow_111 : decode cX11_follow 111 = .ok (.aload_n 0, 1) := by decide +kernel
theorem dX11_follow_112 : decode cX11_follow 112 = .ok (.getfield 81, 3) := by decide +kernel
theorem dX11_follow_115 : decode cX11_follow 115 = .ok (.if_icmp .ge 7, 3) := by decide +kernel
theorem dX11_follow_118 : decode cX11_follow 118 = .ok (.iconst 1, 1) := by decide +kernel
theorem dX11_follow_119 : decode cX11_follow 119 = .ok (.goto 4, 3) := by decide +kernel
theorem dX11_follow_122 : decode cX11_follow 122 = .ok (.iconst 0, 1) := by decide +kernel
theorem dX11_follow_123 : decode cX11_follow 123 = .ok (.istore 5, 2) := by decide +kernel
theorem dX11_follow_125 : decode cX11_follow 125 = .ok (.iload 5, 2) := by decide +kernel
theorem dX11_follow_127 : decode cX11_follow 127 = .ok (.ifCond .eq 145, 3) := by decide +kernel
theorem dX11_follow_130 : decode cX11_follow 130 = .ok (.iload_n 2, 1) := by decide +kernel
theorem dX11_follow_131 : decode cX11_follow 131 = .ok (.aload_n 0, 1) := by decide +kernel
theorem dX11_follow_132 : decode cX11_follow 132 = .ok (.getfield 7, 3) := by decide +kernel
theorem dX11_follow_135 : decode cX11_follow 135 = .ok (.iload 6, 2) := by decide +kernel
theorem dX11_follow_137 : decode cX11_follow 137 = .ok (.iaload, 1) := by decide +kernel
theorem dX11_follow_138 : decode cX11_follow 138 = .ok (.ishr, 1) := by decide +kernel
theorem dX11_follow_139 : decode cX11_follow 139 = .ok (.iconst 1, 1) := by decide +kernel
theorem dX11_follow_140 : decode cX11_follow 140 = .ok (.iand, 1) := by decide +kernel
theorem dX11_follow_141 : decode cX11_follow 141 = .ok (.iconst 1, 1) := by decide +kernel
theorem dX11_follow_142 : decode cX11_follow 142 = .ok (.if_icmp .ne 13, 3) := by decide +kernel
theorem dX11_follow_145 : decode cX11_follow 145 = .ok (.aload_n 0, 1) := by decide +kernel
theorem dX11_follow_146 : decode cX11_follow 146 = .ok (.getfield 13, 3) := by decide +kernel
theorem dX11_follow_149 : decode cX11_follow 149 = .ok (.iload 6, 2) := by decide +kernel
theorem dX11_follow_151 : decode cX11_follow 151 = .ok (.iaload, 1) := by decide +kernel
theorem dX11_follow_152 : decode cX11_follow 152 = .ok (.goto 10, 3) := by decide +kernel
theorem dX11_follow_155 : decode cX11_follow 155 = .ok (.aload_n 0, 1) := by decide +kernel
theorem dX11_follow_156 : decode cX11_follow 156 = .ok (.getfield 7, 3) := by decide +kernel
theorem dX11_follow_159 : decode cX11_follow 159 = .ok (.iload 6, 2) := by decide +kernel
theorem dX11_follow_161 : decode cX11_follow 161 = .ok (.iaload, 1) := by decide +kernel
theorem dX11_follow_162 : decode cX11_follow 162 = .ok (.istore 7, 2) := by decide +kernel
theorem dX11_follow_164 : decode cX11_follow 164 = .ok (.iload_n 3, 1) := by decide +kernel
theorem dX11_follow_165 : decode cX11_follow 165 = .ok (.iconst 1, 1) := by decide +kernel
theorem dX11_follow_166 : decode cX11_follow 166 = .ok (.iload 6, 2) := by decide +kernel
theorem dX11_follow_168 : decode cX11_follow 168 = .ok (.ishl, 1) := by decide +kernel
theorem dX11_follow_169 : decode cX11_follow 169 = .ok (.ior, 1) := by decide +kernel
theorem dX11_follow_170 : decode cX11_follow 170 = .ok (.istore_n 3, 1) := by decide +kernel
theorem dX11_follow_171 : decode cX11_follow 171 = .ok (.aload_n 0, 1) := by decide +kernel
theorem dX11_follow_172 : decode cX11_follow 172 = .ok (.getfield 64, 3) := by decide +kernel
theorem dX11_follow_175 : decode cX11_follow 175 = .ok (.iload 7, 2) := by decide +kernel
theorem dX11_follow_177 : decode cX11_follow 177 = .ok (.dup2, 1) := by decide +kernel
theorem dX11_follow_178 : decode cX11_follow 178 = .ok (.iaload, 1) := by decide +kernel
theorem dX11_follow_179 : decode cX11_follow 179 = .ok (.iconst 1, 1) := by decide +kernel
theorem dX11_follow_180 : decode cX11_follow 180 = .ok (.iadd, 1) := by decide +kernel
theorem dX11_follow_181 : decode cX11_follow 181 = .ok (.iastore, 1) := by decide +kernel
theorem dX11_follow_182 : decode cX11_follow 182 = .ok (.iload_n 1, 1) := by decide +kernel
theorem dX11_follow_183 : decode cX11_follow 183 = .ok (.ifCond .lt 21, 3) := by decide +kernel
theorem dX11_follow_186 : decode cX11_follow 186 = .ok (.iload_n 1, 1) := by decide +kernel
theorem dX11_follow_187 : decode cX11_follow 187 = .ok (.iload 6, 2) := by decide +kernel
theorem dX11_follow_189 : decode cX11_follow 189 = .ok (.ishr, 1) := by decide +kernel
theorem dX11_follow_190 : decode cX11_follow 190 = .ok (.iconst 1, 1) := by decide +kernel
theorem dX11_follow_191 : decode cX11_follow 191 = .ok (.iand, 1) := by decide +kernel
theorem dX11_follow_192 : decode cX11_follow 192 = .ok (.iconst 1, 1) := by decide +kernel
theorem dX11_follow_193 : decode cX11_follow 193 = .ok (.if_icmp .ne 7, 3) := by decide +kernel
theorem dX11_follow_196 : decode cX11_follow 196 = .ok (.iconst 1, 1) := by decide +kernel
theorem dX11_follow_197 : decode cX11_follow 197 = .ok (.goto 39, 3) := by decide +kernel
theorem dX11_follow_200 : decode cX11_follow 200 = .ok (.iconst 0, 1) := by decide +kernel
theorem dX11_follow_201 : decode cX11_follow 201 = .ok (.goto 35, 3) := by decide +kernel
theorem dX11_follow_204 : decode cX11_follow 204 = .ok (.aload_n 0, 1) := by decide +kernel
theorem dX11_follow_205 : decode cX11_follow 205 = .ok (.getfield 64, 3) := by decide +kernel
theorem dX11_follow_208 : decode cX11_follow 208 = .ok (.iload 7, 2) := by decide +kernel
theorem dX11_follow_210 : decode cX11_follow 210 = .ok (.iaload, 1) := by decide +kernel
theorem dX11_follow_211 : decode cX11_follow 211 = .ok (.aload_n 0, 1) := by decide +kernel
theorem dX11_follow_212 : decode cX11_follow 212 = .ok (.getfield 19, 3) := by decide +kernel
theorem dX11_follow_215 : decode cX11_follow 215 = .ok (.iload 7, 2) := by decide +kernel
theorem dX11_follow_217 : decode cX11_follow 217 = .ok (.iaload, 1) := by decide +kernel
theorem dX11_follow_218 : decode cX11_follow 218 = .ok (.iconst 1, 1) := by decide +kernel
theorem dX11_follow_219 : decode cX11_follow 219 = .ok (.isub, 1) := by decide +kernel
theorem dX11_follow_220 : decode cX11_follow 220 = .ok (.aload_n 0, 1) := by decide +kernel
theorem dX11_follow_221 : decode cX11_follow 221 = .ok (.getfield 22, 3) := by decide +kernel
theorem dX11_follow_224 : decode cX11_follow 224 = .ok (.iload 7, 2) := by decide +kernel
theorem dX11_follow_226 : decode cX11_follow 226 = .ok (.iaload, 1) := by decide +kernel
theorem dX11_follow_227 : decode cX11_follow 227 = .ok (.isub, 1) := by decide +kernel
theorem dX11_follow_228 : decode cX11_follow 228 = .ok (.if_icmp .le 7, 3) := by decide +kernel
theorem dX11_follow_231 : decode cX11_follow 231 = .ok (.iconst 1, 1) := by decide +kernel
theorem dX11_follow_232 : decode cX11_follow 232 = .ok (.goto 4, 3) := by decide +kernel
theorem dX11_follow_235 : decode cX11_follow 235 = .ok (.iconst 0, 1) := by decide +kernel
theorem dX11_follow_236 : decode cX11_follow 236 = .ok (.istore 8, 2) := by decide +kernel
theorem dX11_follow_238 : decode cX11_follow 238 = .ok (.iload_n 2, 1) := by decide +kernel
theorem dX11_follow_239 : decode cX11_follow 239 = .ok (.iload 8, 2) := by decide +kernel
theorem dX11_follow_241 : decode cX11_follow 241 = .ok (.ifCond .eq 10, 3) := by decide +kernel
theorem dX11_follow_244 : decode cX11_follow 244 = .ok (.iconst 1, 1) := by decide +kernel
theorem dX11_follow_245 : decode cX11_follow 245 = .ok (.iload 7, 2) := by decide +kernel
theorem dX11_follow_247 : decode cX11_follow 247 = .ok (.ishl, 1) := by decide +kernel
theorem dX11_follow_248 : decode cX11_follow 248 = .ok (.goto 4, 3) := by decide +kernel
theorem dX11_follow_251 : decode cX11_follow 251 = .ok (.iconst 0, 1) := by decide +kernel
theorem dX11_follow_252 : decode cX11_follow 252 = .ok (.ior, 1) := by decide +kernel
theorem dX11_follow_253 : decode cX11_follow 253 = .ok (.istore_n 2, 1) := by decide +kernel
theorem dX11_follow_254 : decode cX11_follow 254 = .ok (.iload 4, 2) := by decide +kernel
theorem dX11_follow_256 : decode cX11_follow 256 = .ok (.iload 8, 2) := by decide +kernel
theorem dX11_follow_258 : decode cX11_follow 258 = .ok (.ifCond .eq 10, 3) := by decide +kernel
theorem dX11_follow_261 : decode cX11_follow 261 = .ok (.iconst 1, 1) := by decide +kernel
theorem dX11_follow_262 : decode cX11_follow 262 = .ok (.iload 6, 2) := by decide +kernel
theorem dX11_follow_264 : decode cX11_follow 264 = .ok (.ishl, 1) := by decide +kernel
theorem dX11_follow_265 : decode cX11_follow 265 = .ok (.goto 4, 3) := by decide +kernel
theorem dX11_follow_268 : decode cX11_follow 268 = .ok (.iconst 0, 1) := by decide +kernel
theorem dX11_follow_269 : decode cX11_follow 269 = .ok (.ior, 1) := by decide +kernel
theorem dX11_follow_270 : decode cX11_follow 270 = .ok (.istore 4, 2) := by decide +kernel
theorem dX11_follow_272 : decode cX11_follow 272 = .ok (.goto (-233), 3) := by decide +kernel
theorem dX11_follow_275 : decode cX11_follow 275 = .ok (.iload 4, 2) := by decide +kernel
theorem dX11_follow_277 : decode cX11_follow 277 = .ok (.ireturn, 1) := by decide +kernel
theorem dX11_tree_0 : decode cX11_tree 0 = .ok (.aload_n 0, 1) := by decide +kernel
theorem dX11_tree_1 : decode cX11_tree 1 = .ok (.aload_n 0, 1) := by decide +kernel
theorem dX11_tree_2 : decode cX11_tree 2 = .ok (.getfield 22, 3) := by decide +kernel
theorem dX11_tree_5 : decode cX11_tree 5 = .ok (.invokevirtual 177, 3) := by decide +kernel
theorem dX11_tree_8 : decode cX11_tree 8 = .ok (.ifCond .eq 11, 3) := by decide +kernel
theorem dX11_tree_11 : decode cX11_tree 11 = .ok (.aload_n 0, 1) := by decide +kernel
theorem dX11_tree_12 : decode cX11_tree 12 = .ok (.iconst (-1), 1) := by decide +kernel
theorem dX11_tree_13 : decode cX11_tree 13 = .ok (.invokevirtual 223, 3) := by decide +kernel
theorem dX11_tree_16 : decode cX11_tree 16 = .ok (.goto 6, 3) := by decide +kernel
theorem dX11_tree_19 : decode cX11_tree 19 = .ok (.sipush (-10004), 3) := by decide +kernel
theorem dX11_tree_22 : decode cX11_tree 22 = .ok (.ireturn, 1) := by decide +kernel
theorem dX11_bits_0 : decode cX11_bits 0 = .ok (.iconst 0, 1) := by decide +kernel
theorem dX11_bits_1 : decode cX11_bits 1 = .ok (.istore_n 1, 1) := by decide +kernel
theorem dX11_bits_2 : decode cX11_bits 2 = .ok (.iload_n 0, 1) := by decide +kernel
theorem dX11_bits_3 : decode cX11_bits 3 = .ok (.istore_n 2, 1) := by decide +kernel
theorem dX11_bits_4 : decode cX11_bits 4 = .ok (.iload_n 2, 1) := by decide +kernel
theorem dX11_bits_5 : decode cX11_bits 5 = .ok (.ifCond .eq 15, 3) := by decide +kernel
theorem dX11_bits_8 : decode cX11_bits 8 = .ok (.iinc 1 1, 3) := by decide +kernel
theorem dX11_bits_11 : decode cX11_bits 11 = .ok (.iload_n 2, 1) := by decide +kernel
theorem dX11_bits_12 : decode cX11_bits 12 = .ok (.iload_n 2, 1) := by decide +kernel
theorem dX11_bits_13 : decode cX11_bits 13 = .ok (.iconst 1, 1) := by decide +kernel
theorem dX11_bits_14 : decode cX11_bits 14 = .ok (.isub, 1) := by decide +kernel
theorem dX11_bits_15 : decode cX11_bits 15 = .ok (.iand, 1) := by decide +kernel
theorem dX11_bits_16 : decode cX11_bits 16 = .ok (.istore_n 2, 1) := by decide +kernel
theorem dX11_bits_17 : decode cX11_bits 17 = .ok (.goto (-13), 3) := by decide +kernel
theorem dX11_bits_20 : decode cX11_bits 20 = .ok (.iload_n 1, 1) := by decide +kernel
theorem dX11_bits_21 : decode cX11_bits 21 = .ok (.ireturn, 1) := by decide +kernel
theorem dX11_isTree_0 : decode cX11_isTree 0 = .ok (.iload_n 1, 1) := by decide +kernel
theorem dX11_isTree_1 : decode cX11_isTree 1 = .ok (.ifCond .lt 26, 3) := by decide +kernel
theorem dX11_isTree_4 : decode cX11_isTree 4 = .ok (.iload_n 1, 1) := by decide +kernel
theorem dX11_isTree_5 : decode cX11_isTree 5 = .ok (.iconst 1, 1) := by decide +kernel
theorem dX11_isTree_6 : decode cX11_isTree 6 = .ok (.aload_n 0, 1) := by decide +kernel
theorem dX11_isTree_7 : decode cX11_isTree 7 = .ok (.getfield 81, 3) := by decide +kernel
theorem dX11_isTree_10 : decode cX11_isTree 10 = .ok (.ishl, 1) := by decide +kernel
theorem dX11_isTree_11 : decode cX11_isTree 11 = .ok (.if_icmp .ge 16, 3) := by decide +kernel
theorem dX11_isTree_14 : decode cX11_isTree 14 = .ok (.iload_n 1, 1) := by decide +kernel
theorem dX11_isTree_15 : decode cX11_isTree 15 = .ok (.invokestatic 227, 3) := by decide +kernel
theorem dX11_isTree_18 : decode cX11_isTree 18 = .ok (.aload_n 0, 1) := by decide +kernel
theorem dX11_isTree_19 : decode cX11_isTree 19 = .ok (.getfield 77, 3) := by decide +kernel
theorem dX11_isTree_22 : decode cX11_isTree 22 = .ok (.iconst 1, 1) := by decide +kernel
theorem dX11_isTree_23 : decode cX11_isTree 23 = .ok (.isub, 1) := by decide +kernel
theorem dX11_isTree_24 : decode cX11_isTree 24 = .ok (.if_icmp .eq 5, 3) := by decide +kernel
theorem dX11_isTree_27 : decode cX11_isTree 27 = .ok (.iconst 0, 1) := by decide +kernel
theorem dX11_isTree_28 : decode cX11_isTree 28 = .ok (.ireturn, 1) := by decide +kernel
theorem dX11_isTree_29 : decode cX11_isTree 29 = .ok (.iconst 1, 1) := by decide +kernel
theorem dX11_isTree_30 : decode cX11_isTree 30 = .ok (.aload_n 0, 1) := by decide +kernel
theorem dX11_isTree_31 : decode cX11_isTree 31 = .ok (.getfield 84, 3) := by decide +kernel
theorem dX11_isTree_34 : decode cX11_isTree 34 = .ok (.ishl, 1) := by decide +kernel
theorem dX11_isTree_35 : decode cX11_isTree 35 = .ok (.istore_n 2, 1) := by decide +kernel
theorem dX11_isTree_36 : decode cX11_isTree 36 = .ok (.iconst 1, 1) := by decide +kernel
theorem dX11_isTree_37 : decode cX11_isTree 37 = .ok (.istore_n 3, 1) := by decide +kernel
theorem dX11_isTree_38 : decode cX11_isTree 38 = .ok (.iload_n 3, 1) := by decide +kernel
theorem dX11_isTree_39 : decode cX11_isTree 39 = .ok (.ifCond .eq 111, 3) := by decide +kernel
theorem dX11_isTree_42 : decode cX11_isTree 42 = .ok (.iconst 0, 1) := by decide +kernel
theorem dX11_isTree_43 : decode cX11_isTree 43 = .ok (.istore_n 3, 1) := by decide +kernel
theorem dX11_isTree_44 : decode cX11_isTree 44 = .ok (.iconst 0, 1) := by decide +kernel
theorem dX11_isTree_45 : decode cX11_isTree 45 = .ok (.istore 4, 2) := by decide +kernel
theorem dX11_isTree_47 : decode cX11_isTree 47 = .ok (.iload 4, 2) := by decide +kernel
theorem dX11_isTree_49 : decode cX11_isTree 49 = .ok (.aload_n 0, 1) := by decide +kernel
theorem dX11_isTree_50 : decode cX11_isTree 50 = .ok (.getfield 81, 3) := by decide +kernel
theorem dX11_isTree_53 : decode cX11_isTree 53 = .ok (.if_icmp .ge 94, 3) := by decide +kernel
theorem dX11_isTree_56 : decode cX11_isTree 56 = .ok (.iload_n 2, 1) := by decide +kernel
theorem dX11_isTree_57 : decode cX11_isTree 57 = .ok (.aload_n 0, 1) := by decide +kernel
theorem dX11_isTree_58 : decode cX11_isTree 58 = .ok (.getfield 7, 3) := by decide +kernel
theorem dX11_isTree_61 : decode cX11_isTree 61 = .ok (.iload 4, 2) := by decide +kernel
theorem dX11_isTree_63 : decode cX11_isTree 63 = .ok (.iaload, 1) := by decide +kernel
theorem dX11_isTree_64 : decode cX11_isTree 64 = .ok (.ishr, 1) := by decide +kernel
theorem dX11_isTree_65 : decode cX11_isTree 65 = .ok (.iconst 1, 1) := by decide +kernel
theorem dX11_isTree_66 : decode cX11_isTree 66 = .ok (.iand, 1) := by decide +kernel
theorem dX11_isTree_67 : decode cX11_isTree 67 = .ok (.iconst 1, 1) := by decide +kernel
theorem dX11_isTree_68 : decode cX11_isTree 68 = .ok (.if_icmp .ne 7, 3) := by decide +kernel
theorem dX11_isTree_71 : decode cX11_isTree 71 = .ok (.iconst 1, 1) := by decide +kernel
theorem dX11_isTree_72 : decode cX11_isTree 72 = .ok (.goto 4, 3) := by decide +kernel
theorem dX11_isTree_75 : decode cX11_isTree 75 = .ok (.iconst 0, 1) := by decide +kernel
theorem dX11_isTree_76 : decode cX11_isTree 76 = .ok (.istore 5, 2) := by decide +kernel
theorem dX11_isTree_78 : decode cX11_isTree 78 = .ok (.iload_n 2, 1) := by decide +kernel
theorem dX11_isTree_79 : decode cX11_isTree 79 = .ok (.aload_n 0, 1) := by decide +kernel
theorem dX11_isTree_80 : decode cX11_isTree 80 = .ok (.getfield 13, 3) := by decide +kernel
theorem dX11_isTree_83 : decode cX11_isTree 83 = .ok (.iload 4, 2) := by decide +kernel
theorem dX11_isTree_85 : decode cX11_isTree 85 = .ok (.iaload, 1) := by decide +kernel
theorem dX11_isTree_86 : decode cX11_isTree 86 = .ok (.ishr, 1) := by decide +kernel
theorem dX11_isTree_87 : decode cX11_isTree 87 = .ok (.iconst 1, 1) := by decide +kernel
theorem dX11_isTree_88 : decode cX11_isTree 88 = .ok (.iand, 1) := by decide +kernel
theorem dX11_isTree_89 : decode cX11_isTree 89 = .ok (.iconst 1, 1) := by decide +kernel
theorem dX11_isTree_90 : decode cX11_isTree 90 = .ok (.if_icmp .ne 7, 3) := by decide +kernel
theorem dX11_isTree_93 : decode cX11_isTree 93 = .ok (.iconst 1, 1) := by decide +kernel
theorem dX11_isTree_94 : decode cX11_isTree 94 = .ok (.goto 4, 3) := by decide +kernel
theorem dX11_isTree_97 : decode cX11_isTree 97 = .ok (.iconst 0, 1) := by decide +kernel
theorem dX11_isTree_98 : decode cX11_isTree 98 = .ok (.istore 6, 2) := by decide +kernel
theorem dX11_isTree_100 : decode cX11_isTree 100 = .ok (.iload_n 1, 1) := by decide +kernel
theorem dX11_isTree_101 : decode cX11_isTree 101 = .ok (.iload 4, 2) := by decide +kernel
theorem dX11_isTree_103 : decode cX11_isTree 103 = .ok (.ishr, 1) := by decide +kernel
theorem dX11_isTree_104 : decode cX11_isTree 104 = .ok (.iconst 1, 1) := by decide +kernel
theorem dX11_isTree_105 : decode cX11_isTree 105 = .ok (.iand, 1) := by decide +kernel
theorem dX11_isTree_106 : decode cX11_isTree 106 = .ok (.iconst 1, 1) := by decide +kernel
theorem dX11_isTree_107 : decode cX11_isTree 107 = .ok (.if_icmp .ne 34, 3) := by decide +kernel
theorem dX11_isTree_110 : decode cX11_isTree 110 = .ok (.iload 5, 2) := by decide +kernel
theorem dX11_isTree_112 : decode cX11_isTree 112 = .ok (.iload 6, 2) := by decide +kernel
theorem dX11_isTree_114 : decode cX11_isTree 114 = .ok (.if_icmp .eq 27, 3) := by decide +kernel
theorem dX11_isTree_117 : decode cX11_isTree 117 = .ok (.iload_n 2, 1) := by decide +kernel
theorem dX11_isTree_118 : decode cX11_isTree 118 = .ok (.iconst 1, 1) := by decide +kernel
theorem dX11_isTree_119 : decode cX11_isTree 119 = .ok (.aload_n 0, 1) := by decide +kernel
theorem dX11_isTree_120 : decode cX11_isTree 120 = .ok (.getfield 7, 3) := by decide +kernel
theorem dX11_isTree_123 : decode cX11_isTree 123 = .ok (.iload 4, 2) := by decide +kernel
theorem dX11_isTree_125 : decode cX11_isTree 125 = .ok (.iaload, 1) := by decide +kernel
theorem dX11_isTree_126 : decode cX11_isTree 126 = .ok (.ishl, 1) := by decide +kernel
theorem dX11_isTree_127 : decode cX11_isTree 127 = .ok (.iconst 1, 1) := by decide +kernel
theorem dX11_isTree_128 : decode cX11_isTree 128 = .ok (.aload_n 0, 1) := by decide +kernel
theorem dX11_isTree_129 : decode cX11_isTree 129 = .ok (.getfield 13, 3) := by decide +kernel
theorem dX11_isTree_132 : decode cX11_isTree 132 = .ok (.iload 4, 2) := by decide +kernel
theorem dX11_isTree_134 : decode cX11_isTree 134 = .ok (.iaload, 1) := by decide +kernel
theorem dX11_isTree_135 : decode cX11_isTree 135 = .ok (.ishl, 1) := by decide +kernel
theorem dX11_isTree_136 : decode cX11_isTree 136 = .ok (.ior, 1) := by decide +kernel
theorem dX11_isTree_137 : decode cX11_isTree 137 = .ok (.ior, 1) := by decide +kernel
theorem dX11_isTree_138 : decode cX11_isTree 138 = .ok (.istore_n 2, 1) := by decide +kernel
theorem dX11_isTree_139 : decode cX11_isTree 139 = .ok (.iconst 1, 1) := by decide +kernel
theorem dX11_isTree_140 : decode cX11_isTree 140 = .ok (.istore_n 3, 1) := by decide +kernel
theorem dX11_isTree_141 : decode cX11_isTree 141 = .ok (.iinc 4 1, 3) := by decide +kernel
theorem dX11_isTree_144 : decode cX11_isTree 144 = .ok (.goto (-97), 3) := by decide +kernel
theorem dX11_isTree_147 : decode cX11_isTree 147 = .ok (.goto (-109), 3) := by decide +kernel
theorem dX11_isTree_150 : decode cX11_isTree 150 = .ok (.iload_n 2, 1) := by decide +kernel
theorem dX11_isTree_151 : decode cX11_isTree 151 = .ok (.iconst 1, 1) := by decide +kernel
theorem dX11_isTree_152 : decode cX11_isTree 152 = .ok (.aload_n 0, 1) := by decide +kernel
theorem dX11_isTree_153 : decode cX11_isTree 153 = .ok (.getfield 77, 3) := by decide +kernel
theorem dX11_isTree_156 : decode cX11_isTree 156 = .ok (.ishl, 1) := by decide +kernel
theorem dX11_isTree_157 : decode cX11_isTree 157 = .ok (.iconst 1, 1) := by decide +kernel
theorem dX11_isTree_158 : decode cX11_isTree 158 = .ok (.isub, 1) := by decide +kernel
theorem dX11_isTree_159 : decode cX11_isTree 159 = .ok (.if_icmp .ne 7, 3) := by decide +kernel
theorem dX11_isTree_162 : decode cX11_isTree 162 = .ok (.iconst 1, 1) := by decide +kernel
theorem dX11_isTree_163 : decode cX11_isTree 163 = .ok (.goto 4, 3) := by decide +kernel
theorem dX11_isTree_166 : decode cX11_isTree 166 = .ok (.iconst 0, 1) := by decide +kernel
theorem dX11_isTree_167 : decode cX11_isTree 167 = .ok (.ireturn, 1) := by decide +kernel
theorem dX11_takeTree_0 : decode cX11_takeTree 0 = .ok (.aload_n 0, 1) := by decide +kernel
theorem dX11_takeTree_1 : decode cX11_takeTree 1 = .ok (.iload_n 1, 1) := by decide +kernel
theorem dX11_takeTree_2 : decode cX11_takeTree 2 = .ok (.invokevirtual 230, 3) := by decide +kernel
theorem dX11_takeTree_5 : decode cX11_takeTree 5 = .ok (.ifCond .ne 7, 3) := by decide +kernel
theorem dX11_takeTree_8 : decode cX11_takeTree 8 = .ok (.sipush (-10002), 3) := by decide +kernel
theorem dX11_takeTree_11 : decode cX11_takeTree 11 = .ok (.ireturn, 1) := by decide +kernel
theorem dX11_takeTree_12 : decode cX11_takeTree 12 = .ok (.aload_n 0, 1) := by decide +kernel
theorem dX11_takeTree_13 : decode cX11_takeTree 13 = .ok (.invokevirtual 133, 3) := by decide +kernel
theorem dX11_takeTree_16 : decode cX11_takeTree 16 = .ok (.aload_n 0, 1) := by decide +kernel
theorem dX11_takeTree_17 : decode cX11_takeTree 17 = .ok (.iload_n 1, 1) := by decide +kernel
theorem dX11_takeTree_18 : decode cX11_takeTree 18 = .ok (.invokevirtual 223, 3) := by decide +kernel
theorem dX11_takeTree_21 : decode cX11_takeTree 21 = .ok (.pop, 1) := by decide +kernel
theorem dX11_takeTree_22 : decode cX11_takeTree 22 = .ok (.iconst 0, 1) := by decide +kernel
theorem dX11_takeTree_23 : decode cX11_takeTree 23 = .ok (.istore_n 2, 1) := by decide +kernel
theorem dX11_takeTree_24 : decode cX11_takeTree 24 = .ok (.iload_n 2, 1) := by decide +kernel
theorem dX11_takeTree_25 : decode cX11_takeTree 25 = .ok (.aload_n 0, 1) := by decide +kernel
theorem dX11_takeTree_26 : decode cX11_takeTree 26 = .ok (.getfield 77, 3) := by decide +kernel
theorem dX11_takeTree_29 : decode cX11_takeTree 29 = .ok (.if_icmp .ge 40, 3) := by decide +kernel
theorem dX11_takeTree_32 : decode cX11_takeTree 32 = .ok (.aload_n 0, 1) := by decide +kernel
theorem dX11_takeTree_33 : decode cX11_takeTree 33 = .ok (.getfield 22, 3) := by decide +kernel
theorem dX11_takeTree_36 : decode cX11_takeTree 36 = .ok (.iload_n 2, 1) := by decide +kernel
theorem dX11_takeTree_37 : decode cX11_takeTree 37 = .ok (.iload_n 2, 1) := by decide +kernel
theorem dX11_takeTree_38 : decode cX11_takeTree 38 = .ok (.aload_n 0, 1) := by decide +kernel
theorem dX11_takeTree_39 : decode cX11_takeTree 39 = .ok (.getfield 84, 3) := by decide +kernel
theorem dX11_takeTree_42 : decode cX11_takeTree 42 = .ok (.if_icmp .ne 7, 3) := by decide +kernel
theorem dX11_takeTree_45 : decode cX11_takeTree 45 = .ok (.iconst 0, 1) := by decide +kernel
theorem dX11_takeTree_46 : decode cX11_takeTree 46 = .ok (.goto 16, 3) := by decide +kernel
theorem dX11_takeTree_49 : decode cX11_takeTree 49 = .ok (.aload_n 0, 1) := by decide +kernel
theorem dX11_takeTree_50 : decode cX11_takeTree 50 = .ok (.getfield 19, 3) := by decide +kernel
theorem dX11_takeTree_53 : decode cX11_takeTree 53 = .ok (.iload_n 2, 1) := by decide +kernel
theorem dX11_takeTree_54 : decode cX11_takeTree 54 = .ok (.iaload, 1) := by decide +kernel
theorem dX11_takeTree_55 : decode cX11_takeTree 55 = .ok (.aload_n 0, 1) := by decide +kernel
theorem dX11_takeTree_56 : decode cX11_takeTree 56 = .ok (.getfield 64, 3) := by decide +kernel
theorem dX11_takeTree_59 : decode cX11_takeTree 59 = .ok (.iload_n 2, 1) := by decide +kernel
theorem dX11_takeTree_60 : decode cX11_takeTree 60 = .ok (.iaload, 1) := by decide +kernel
theorem dX11_takeTree_61 : decode cX11_takeTree 61 = .ok (.isub, 1) := by decide +kernel
theorem dX11_takeTree_62 : decode cX11_takeTree 62 = .ok (.iastore, 1) := by decide +kernel
theorem dX11_takeTree_63 : decode cX11_takeTree 63 = .ok (.iinc 2 1, 3) := by decide +kernel
theorem dX11_takeTree_66 : decode cX11_takeTree 66 = .ok (.goto (-42), 3) := by decide +kernel
theorem dX11_takeTree_69 : decode cX11_takeTree 69 = .ok (.aload_n 0, 1) := by decide +kernel
theorem dX11_takeTree_70 : decode cX11_takeTree 70 = .ok (.invokevirtual 123, 3) := by decide +kernel
theorem dX11_takeTree_73 : decode cX11_takeTree 73 = .ok (.ireturn, 1) := by decide +kernel
theorem dX11_treeAt_0 : decode cX11_treeAt 0 = .ok (.iload_n 1, 1) := by decide +kernel
theorem dX11_treeAt_1 : decode cX11_treeAt 1 = .ok (.ifCond .ge 7, 3) := by decide +kernel
theorem dX11_treeAt_4 : decode cX11_treeAt 4 = .ok (.sipush (-10002), 3) := by decide +kernel
theorem dX11_treeAt_7 : decode cX11_treeAt 7 = .ok (.ireturn, 1) := by decide +kernel
theorem dX11_treeAt_8 : decode cX11_treeAt 8 = .ok (.iconst 1, 1) := by decide +kernel
theorem dX11_treeAt_9 : decode cX11_treeAt 9 = .ok (.aload_n 0, 1) := by decide +kernel
theorem dX11_treeAt_10 : decode cX11_treeAt 10 = .ok (.getfield 77, 3) := by decide +kernel
theorem dX11_treeAt_13 : decode cX11_treeAt 13 = .ok (.iconst 1, 1) := by decide +kernel
theorem dX11_treeAt_14 : decode cX11_treeAt 14 = .ok (.isub, 1) := by decide +kernel
theorem dX11_treeAt_15 : decode cX11_treeAt 15 = .ok (.ishl, 1) := by decide +kernel
theorem dX11_treeAt_16 : decode cX11_treeAt 16 = .ok (.iconst 1, 1) := by decide +kernel
theorem dX11_treeAt_17 : decode cX11_treeAt 17 = .ok (.isub, 1) := by decide +kernel
theorem dX11_treeAt_18 : decode cX11_treeAt 18 = .ok (.istore_n 2, 1) := by decide +kernel
theorem dX11_treeAt_19 : decode cX11_treeAt 19 = .ok (.iconst 0, 1) := by decide +kernel
theorem dX11_treeAt_20 : decode cX11_treeAt 20 = .ok (.istore_n 3, 1) := by decide +kernel
theorem dX11_treeAt_21 : decode cX11_treeAt 21 = .ok (.iload_n 2, 1) := by decide +kernel
theorem dX11_treeAt_22 : decode cX11_treeAt 22 = .ok (.iconst 1, 1) := by decide +kernel
theorem dX11_treeAt_23 : decode cX11_treeAt 23 = .ok (.aload_n 0, 1) := by decide +kernel
theorem dX11_treeAt_24 : decode cX11_treeAt 24 = .ok (.getfield 81, 3) := by decide +kernel
theorem dX11_treeAt_27 : decode cX11_treeAt 27 = .ok (.ishl, 1) := by decide +kernel
theorem dX11_treeAt_28 : decode cX11_treeAt 28 = .ok (.if_icmp .ge 49, 3) := by decide +kernel
theorem dX11_treeAt_31 : decode cX11_treeAt 31 = .ok (.aload_n 0, 1) := by decide +kernel
theorem dX11_treeAt_32 : decode cX11_treeAt 32 = .ok (.iload_n 2, 1) := by decide +kernel
theorem dX11_treeAt_33 : decode cX11_treeAt 33 = .ok (.invokevirtual 230, 3) := by decide +kernel
theorem dX11_treeAt_36 : decode cX11_treeAt 36 = .ok (.ifCond .eq 13, 3) := by decide +kernel
theorem dX11_treeAt_39 : decode cX11_treeAt 39 = .ok (.iload_n 3, 1) := by decide +kernel
theorem dX11_treeAt_40 : decode cX11_treeAt 40 = .ok (.iload_n 1, 1) := by decide +kernel
theorem dX11_treeAt_41 : decode cX11_treeAt 41 = .ok (.if_icmp .ne 5, 3) := by decide +kernel
theorem dX11_treeAt_44 : decode cX11_treeAt 44 = .ok (.iload_n 2, 1) := by decide +kernel
theorem dX11_treeAt_45 : decode cX11_treeAt 45 = .ok (.ireturn, 1) := by decide +kernel
theorem dX11_treeAt_46 : decode cX11_treeAt 46 = .ok (.iinc 3 1, 3) := by decide +kernel
theorem dX11_treeAt_49 : decode cX11_treeAt 49 = .ok (.iload_n 2, 1) := by decide +kernel
theorem dX11_treeAt_50 : decode cX11_treeAt 50 = .ok (.iload_n 2, 1) := by decide +kernel
theorem dX11_treeAt_51 : decode cX11_treeAt 51 = .ok (.ineg, 1) := by decide +kernel
theorem dX11_treeAt_52 : decode cX11_treeAt 52 = .ok (.iand, 1) := by decide +kernel
theorem dX11_treeAt_53 : decode cX11_treeAt 53 = .ok (.istore 4, 2) := by decide +kernel
theorem dX11_treeAt_55 : decode cX11_treeAt 55 = .ok (.iload_n 2, 1) := by decide +kernel
theorem dX11_treeAt_56 : decode cX11_treeAt 56 = .ok (.iload 4, 2) := by decide +kernel
theorem dX11_treeAt_58 : decode cX11_treeAt 58 = .ok (.iadd, 1) := by decide +kernel
theorem dX11_treeAt_59 : decode cX11_treeAt 59 = .ok (.istore 5, 2) := by decide +kernel
theorem dX11_treeAt_61 : decode cX11_treeAt 61 = .ok (.iload 5, 2) := by decide +kernel
theorem dX11_treeAt_63 : decode cX11_treeAt 63 = .ok (.iload_n 2, 1) := by decide +kernel
theorem dX11_treeAt_64 : decode cX11_treeAt 64 = .ok (.iload 5, 2) := by decide +kernel
theorem dX11_treeAt_66 : decode cX11_treeAt 66 = .ok (.ixor, 1) := by decide +kernel
theorem dX11_treeAt_67 : decode cX11_treeAt 67 = .ok (.iload 4, 2) := by decide +kernel
theorem dX11_treeAt_69 : decode cX11_treeAt 69 = .ok (.idiv, 1) := by decide +kernel
theorem dX11_treeAt_70 : decode cX11_treeAt 70 = .ok (.iconst 2, 1) := by decide +kernel
theorem dX11_treeAt_71 : decode cX11_treeAt 71 = .ok (.ishr, 1) := by decide +kernel
theorem dX11_treeAt_72 : decode cX11_treeAt 72 = .ok (.ior, 1) := by decide +kernel
theorem dX11_treeAt_73 : decode cX11_treeAt 73 = .ok (.istore_n 2, 1) := by decide +kernel
theorem dX11_treeAt_74 : decode cX11_treeAt 74 = .ok (.goto (-53), 3) := by decide +kernel
theorem dX11_treeAt_77 : decode cX11_treeAt 77 = .ok (.sipush (-10007), 3) := by decide +kernel
theorem dX11_treeAt_80 : decode cX11_treeAt 80 = .ok (.ireturn, 1) := by decide +kernel
abbrev H_Mo_changed_2 (Q : Sto → Prop) (x1 : Int) (s : Sto) : Prop := Go SM M_Mo_changed (fV0 Q) 2 [(0, .ref 0), (1, iV x1)] [] s
abbrev H_Mo_changed_23 (Q : Sto → Prop) (x1 : Int) (s : Sto) : Prop := Go SM M_Mo_changed (fV0 Q) 23 [(0, .ref 0), (1, iV x1)] [] s
abbrev H_Mo_changed_44 (Q : Sto → Prop) (x1 : Int) (s : Sto) : Prop := Go SM M_Mo_changed (fV0 Q) 44 [(0, .ref 0), (1, iV x1)] [] s
abbrev H_Mo_changed_145 (Q : Sto → Prop) (x1 : Int) (s : Sto) : Prop := Go SM M_Mo_changed (fV0 Q) 145 [(0, .ref 0), (1, iV x1)] [] s
set_option maxRecDepth 20000 in
theorem b_Mo_changed_2 {Q : Sto → Prop} {x1 : Int} {s : Sto} (hT : (-2147483648 ≤ x1 ∧ x1 < 2147483648) ∧ ((64 ≤ x1) → H_Mo_changed_23 Q 0 s) ∧ ((x1 < 64) → (0 ≤ x1 ∧ x1 < 64) ∧ ∀ s4, s4 = up s 3 (Int.toNat x1) 0 → H_Mo_changed_2 Q (x1 + 1) s4)) : H_Mo_changed_2 Q x1 s := by
  refine g_iload_n (npc := 3) dX11_changed_2 rfl rfl rfl ?_
  refine g_bipush (npc := 5) (x := 64) dX11_changed_3 rfl (by decide) ?_
  obtain ⟨h1, hTt, hTf⟩ := hT
  refine g_icmp_ge (npc := 8) (tgt := 21) dX11_changed_5 rfl (by decide) ⟨h1, by decide, by decide⟩ (fun c2 => ?_) (fun c2 => ?_)
  · replace hT := hTt c2
    refine g_iconst (npc := 22) dX11_changed_21 rfl ?_
    refine g_istore_n (npc := 23) (l' := [(0, .ref 0), (1, iV 0)]) dX11_changed_22 rfl rfl (by decide) rfl ?_
    exact hT
  · replace hT := hTf (Int.not_le.mp c2)
    refine g_aload_n (npc := 9) dX11_changed_8 rfl rfl rfl ?_
    refine gf_Mo_16 (npc := 12) dX11_changed_9 rfl rfl ?_
    refine g_iload_n (npc := 13) dX11_changed_12 rfl rfl rfl ?_
    refine g_iconst (npc := 14) dX11_changed_13 rfl ?_
    obtain ⟨h3, hT⟩ := hT
    replace hT := hT _ rfl
    refine g_iast (npc := 15) dX11_changed_14 rfl arSM_3 h3  ?_
    refine g_iinc (npc := 18) (y := (x1 + 1)) (l' := [(0, .ref 0), (1, iV (x1 + 1))]) dX11_changed_15 rfl (by decide) rfl (by omega) rfl ?_
    refine g_goto (npc := 2) dX11_changed_18 (by decide) ?_
    exact hT
set_option maxRecDepth 20000 in
theorem b_Mo_changed_23 {Q : Sto → Prop} {x1 : Int} {s : Sto} (hT : (-2147483648 ≤ x1 ∧ x1 < 2147483648) ∧ ((8 ≤ x1) → H_Mo_changed_44 Q 0 s) ∧ ((x1 < 8) → (0 ≤ x1 ∧ x1 < 8) ∧ ∀ s8, s8 = up s 4 (Int.toNat x1) 0 → H_Mo_changed_23 Q (x1 + 1) s8)) : H_Mo_changed_23 Q x1 s := by
  refine g_iload_n (npc := 24) dX11_changed_23 rfl rfl rfl ?_
  refine g_bipush (npc := 26) (x := 8) dX11_changed_24 rfl (by decide) ?_
  obtain ⟨h5, hTt, hTf⟩ := hT
  refine g_icmp_ge (npc := 29) (tgt := 42) dX11_changed_26 rfl (by decide) ⟨h5, by decide, by decide⟩ (fun c6 => ?_) (fun c6 => ?_)
  · replace hT := hTt c6
    refine g_iconst (npc := 43) dX11_changed_42 rfl ?_
    refine g_istore_n (npc := 44) (l' := [(0, .ref 0), (1, iV 0)]) dX11_changed_43 rfl rfl (by decide) rfl ?_
    exact hT
  · replace hT := hTf (Int.not_le.mp c6)
    refine g_aload_n (npc := 30) dX11_changed_29 rfl rfl rfl ?_
    refine gf_Mo_19 (npc := 33) dX11_changed_30 rfl rfl ?_
    refine g_iload_n (npc := 34) dX11_changed_33 rfl rfl rfl ?_
    refine g_iconst (npc := 35) dX11_changed_34 rfl ?_
    obtain ⟨h7, hT⟩ := hT
    replace hT := hT _ rfl
    refine g_iast (npc := 36) dX11_changed_35 rfl arSM_4 h7  ?_
    refine g_iinc (npc := 39) (y := (x1 + 1)) (l' := [(0, .ref 0), (1, iV (x1 + 1))]) dX11_changed_36 rfl (by decide) rfl (by omega) rfl ?_
    refine g_goto (npc := 23) dX11_changed_39 (by decide) ?_
    exact hT
set_option maxRecDepth 20000 in
theorem b_Mo_changed_44 {Q : Sto → Prop} {x1 : Int} {s : Sto} (hT : ((-2147483648 ≤ x1 ∧ x1 < 2147483648) ∧ -2147483648 ≤ (s 0 1) ∧ (s 0 1) < 2147483648) ∧ (((s 0 1) ≤ x1) → ∀ s11, s11 = up s 0 11 0 → H_Mo_changed_145 Q 0 s11) ∧ ((x1 < (s 0 1)) → (0 ≤ x1 ∧ x1 < 20) ∧ (0 ≤ x1 ∧ x1 < 20) ∧ (0 ≤ ((8 * (s 1 (Int.toNat x1))) + (s 2 (Int.toNat x1))) ∧ ((8 * (s 1 (Int.toNat x1))) + (s 2 (Int.toNat x1))) < 64) ∧ (0 ≤ ((8 * (s 1 (Int.toNat x1))) + (s 2 (Int.toNat x1))) ∧ ((8 * (s 1 (Int.toNat x1))) + (s 2 (Int.toNat x1))) < 64) ∧ ∀ s16, s16 = up s 3 (Int.toNat ((8 * (s 1 (Int.toNat x1))) + (s 2 (Int.toNat x1)))) ((s 3 (Int.toNat ((8 * (s 1 (Int.toNat x1))) + (s 2 (Int.toNat x1))))) + 1) → (0 ≤ x1 ∧ x1 < 20) ∧ (0 ≤ x1 ∧ x1 < 20) ∧ (0 ≤ ((8 * (s16 2 (Int.toNat x1))) + (s16 1 (Int.toNat x1))) ∧ ((8 * (s16 2 (Int.toNat x1))) + (s16 1 (Int.toNat x1))) < 64) ∧ (0 ≤ ((8 * (s16 2 (Int.toNat x1))) + (s16 1 (Int.toNat x1))) ∧ ((8 * (s16 2 (Int.toNat x1))) + (s16 1 (Int.toNat x1))) < 64) ∧ ∀ s21, s21 = up s16 3 (Int.toNat ((8 * (s16 2 (Int.toNat x1))) + (s16 1 (Int.toNat x1)))) ((s16 3 (Int.toNat ((8 * (s16 2 (Int.toNat x1))) + (s16 1 (Int.toNat x1))))) + 1) → (0 ≤ x1 ∧ x1 < 20) ∧ (0 ≤ (s21 1 (Int.toNat x1)) ∧ (s21 1 (Int.toNat x1)) < 8) ∧ (0 ≤ (s21 1 (Int.toNat x1)) ∧ (s21 1 (Int.toNat x1)) < 8) ∧ ∀ s25, s25 = up s21 4 (Int.toNat (s21 1 (Int.toNat x1))) ((s21 4 (Int.toNat (s21 1 (Int.toNat x1)))) + 1) → (0 ≤ x1 ∧ x1 < 20) ∧ (0 ≤ (s25 2 (Int.toNat x1)) ∧ (s25 2 (Int.toNat x1)) < 8) ∧ (0 ≤ (s25 2 (Int.toNat x1)) ∧ (s25 2 (Int.toNat x1)) < 8) ∧ ∀ s29, s29 = up s25 4 (Int.toNat (s25 2 (Int.toNat x1))) ((s25 4 (Int.toNat (s25 2 (Int.toNat x1)))) + 1) → H_Mo_changed_44 Q (x1 + 1) s29)) : H_Mo_changed_44 Q x1 s := by
  refine g_iload_n (npc := 45) dX11_changed_44 rfl rfl rfl ?_
  refine g_aload_n (npc := 46) dX11_changed_45 rfl rfl rfl ?_
  refine gf_Mo_81 (npc := 49) dX11_changed_46 rfl rfl ?_
  obtain ⟨h9, hTt, hTf⟩ := hT
  refine g_icmp_ge (npc := 52) (tgt := 138) dX11_changed_49 rfl (by decide) h9 (fun c10 => ?_) (fun c10 => ?_)
  · replace hT := hTt c10
    refine g_aload_n (npc := 139) dX11_changed_138 rfl rfl rfl ?_
    refine g_iconst (npc := 140) dX11_changed_139 rfl ?_
    replace hT := hT _ rfl
    refine pf_Mo_90 (npc := 143) dX11_changed_140 rfl rfl ?_
    refine g_iconst (npc := 144) dX11_changed_143 rfl ?_
    refine g_istore_n (npc := 145) (l' := [(0, .ref 0), (1, iV 0)]) dX11_changed_144 rfl rfl (by decide) rfl ?_
    exact hT
  · replace hT := hTf (Int.not_le.mp c10)
    refine g_aload_n (npc := 53) dX11_changed_52 rfl rfl rfl ?_
    refine gf_Mo_16 (npc := 56) dX11_changed_53 rfl rfl ?_
    refine g_bipush (npc := 58) (x := 8) dX11_changed_56 rfl (by decide) ?_
    refine g_aload_n (npc := 59) dX11_changed_58 rfl rfl rfl ?_
    refine gf_Mo_7 (npc := 62) dX11_changed_59 rfl rfl ?_
    refine g_iload_n (npc := 63) dX11_changed_62 rfl rfl rfl ?_
    obtain ⟨h12, hT⟩ := hT
    refine g_iald (npc := 64) dX11_changed_63 rfl arSM_1 h12 ?_
    refine g_imul (npc := 65) dX11_changed_64 rfl ?_
    refine g_aload_n (npc := 66) dX11_changed_65 rfl rfl rfl ?_
    refine gf_Mo_13 (npc := 69) dX11_changed_66 rfl rfl ?_
    refine g_iload_n (npc := 70) dX11_changed_69 rfl rfl rfl ?_
    obtain ⟨h13, hT⟩ := hT
    refine g_iald (npc := 71) dX11_changed_70 rfl arSM_2 h13 ?_
    refine g_iadd (npc := 72) dX11_changed_71 rfl ?_
    refine g_dup2 (npc := 73) dX11_changed_72 rfl rfl rfl ?_
    obtain ⟨h14, hT⟩ := hT
    refine g_iald (npc := 74) dX11_changed_73 rfl arSM_3 h14 ?_
    refine g_iconst (npc := 75) dX11_changed_74 rfl ?_
    refine g_iadd (npc := 76) dX11_changed_75 rfl ?_
    obtain ⟨h15, hT⟩ := hT
    replace hT := hT _ rfl
    refine g_iast (npc := 77) dX11_changed_76 rfl arSM_3 h15  ?_
    refine g_aload_n (npc := 78) dX11_changed_77 rfl rfl rfl ?_
    refine gf_Mo_16 (npc := 81) dX11_changed_78 rfl rfl ?_
    refine g_bipush (npc := 83) (x := 8) dX11_changed_81 rfl (by decide) ?_
    refine g_aload_n (npc := 84) dX11_changed_83 rfl rfl rfl ?_
    refine gf_Mo_13 (npc := 87) dX11_changed_84 rfl rfl ?_
    refine g_iload_n (npc := 88) dX11_changed_87 rfl rfl rfl ?_
    obtain ⟨h17, hT⟩ := hT
    refine g_iald (npc := 89) dX11_changed_88 rfl arSM_2 h17 ?_
    refine g_imul (npc := 90) dX11_changed_89 rfl ?_
    refine g_aload_n (npc := 91) dX11_changed_90 rfl rfl rfl ?_
    refine gf_Mo_7 (npc := 94) dX11_changed_91 rfl rfl ?_
    refine g_iload_n (npc := 95) dX11_changed_94 rfl rfl rfl ?_
    obtain ⟨h18, hT⟩ := hT
    refine g_iald (npc := 96) dX11_changed_95 rfl arSM_1 h18 ?_
    refine g_iadd (npc := 97) dX11_changed_96 rfl ?_
    refine g_dup2 (npc := 98) dX11_changed_97 rfl rfl rfl ?_
    obtain ⟨h19, hT⟩ := hT
    refine g_iald (npc := 99) dX11_changed_98 rfl arSM_3 h19 ?_
    refine g_iconst (npc := 100) dX11_changed_99 rfl ?_
    refine g_iadd (npc := 101) dX11_changed_100 rfl ?_
    obtain ⟨h20, hT⟩ := hT
    replace hT := hT _ rfl
    refine g_iast (npc := 102) dX11_changed_101 rfl arSM_3 h20  ?_
    refine g_aload_n (npc := 103) dX11_changed_102 rfl rfl rfl ?_
    refine gf_Mo_19 (npc := 106) dX11_changed_103 rfl rfl ?_
    refine g_aload_n (npc := 107) dX11_changed_106 rfl rfl rfl ?_
    refine gf_Mo_7 (npc := 110) dX11_changed_107 rfl rfl ?_
    refine g_iload_n (npc := 111) dX11_changed_110 rfl rfl rfl ?_
    obtain ⟨h22, hT⟩ := hT
    refine g_iald (npc := 112) dX11_changed_111 rfl arSM_1 h22 ?_
    refine g_dup2 (npc := 113) dX11_changed_112 rfl rfl rfl ?_
    obtain ⟨h23, hT⟩ := hT
    refine g_iald (npc := 114) dX11_changed_113 rfl arSM_4 h23 ?_
    refine g_iconst (npc := 115) dX11_changed_114 rfl ?_
    refine g_iadd (npc := 116) dX11_changed_115 rfl ?_
    obtain ⟨h24, hT⟩ := hT
    replace hT := hT _ rfl
    refine g_iast (npc := 117) dX11_changed_116 rfl arSM_4 h24  ?_
    refine g_aload_n (npc := 118) dX11_changed_117 rfl rfl rfl ?_
    refine gf_Mo_19 (npc := 121) dX11_changed_118 rfl rfl ?_
    refine g_aload_n (npc := 122) dX11_changed_121 rfl rfl rfl ?_
    refine gf_Mo_13 (npc := 125) dX11_changed_122 rfl rfl ?_
    refine g_iload_n (npc := 126) dX11_changed_125 rfl rfl rfl ?_
    obtain ⟨h26, hT⟩ := hT
    refine g_iald (npc := 127) dX11_changed_126 rfl arSM_2 h26 ?_
    refine g_dup2 (npc := 128) dX11_changed_127 rfl rfl rfl ?_
    obtain ⟨h27, hT⟩ := hT
    refine g_iald (npc := 129) dX11_changed_128 rfl arSM_4 h27 ?_
    refine g_iconst (npc := 130) dX11_changed_129 rfl ?_
    refine g_iadd (npc := 131) dX11_changed_130 rfl ?_
    obtain ⟨h28, hT⟩ := hT
    replace hT := hT _ rfl
    refine g_iast (npc := 132) dX11_changed_131 rfl arSM_4 h28  ?_
    refine g_iinc (npc := 135) (y := (x1 + 1)) (l' := [(0, .ref 0), (1, iV (x1 + 1))]) dX11_changed_132 rfl (by decide) rfl (by omega) rfl ?_
    refine g_goto (npc := 44) dX11_changed_135 (by decide) ?_
    exact hT
set_option maxRecDepth 20000 in
theorem b_Mo_changed_145 {Q : Sto → Prop} {x1 : Int} {s : Sto} (hT : (-2147483648 ≤ x1 ∧ x1 < 2147483648) ∧ ((3 ≤ x1) → ∀ s32, s32 = up s 0 21 0 → Q s32) ∧ ((x1 < 3) → (0 ≤ x1 ∧ x1 < 3) ∧ ∀ s34, s34 = up s 9 (Int.toNat x1) 0 → H_Mo_changed_145 Q (x1 + 1) s34)) : H_Mo_changed_145 Q x1 s := by
  refine g_iload_n (npc := 146) dX11_changed_145 rfl rfl rfl ?_
  refine g_iconst (npc := 147) dX11_changed_146 rfl ?_
  obtain ⟨h30, hTt, hTf⟩ := hT
  refine g_icmp_ge (npc := 150) (tgt := 163) dX11_changed_147 rfl (by decide) ⟨h30, by decide, by decide⟩ (fun c31 => ?_) (fun c31 => ?_)
  · replace hT := hTt c31
    refine g_aload_n (npc := 164) dX11_changed_163 rfl rfl rfl ?_
    refine g_iconst (npc := 165) dX11_changed_164 rfl ?_
    replace hT := hT _ rfl
    refine pf_Mo_93 (npc := 168) dX11_changed_165 rfl rfl ⟨by decide, by decide⟩ ?_
    exact g_ret dX11_changed_168 rfl ⟨rfl, hT⟩
  · replace hT := hTf (Int.not_le.mp c31)
    refine g_aload_n (npc := 151) dX11_changed_150 rfl rfl rfl ?_
    refine gf_Mo_35 (npc := 154) dX11_changed_151 rfl rfl ?_
    refine g_iload_n (npc := 155) dX11_changed_154 rfl rfl rfl ?_
    refine g_iconst (npc := 156) dX11_changed_155 rfl ?_
    obtain ⟨h33, hT⟩ := hT
    replace hT := hT _ rfl
    refine g_zast (npc := 157) dX11_changed_156 rfl arSM_9 h33 (by decide) ?_
    refine g_iinc (npc := 160) (y := (x1 + 1)) (l' := [(0, .ref 0), (1, iV (x1 + 1))]) dX11_changed_157 rfl (by decide) rfl (by omega) rfl ?_
    refine g_goto (npc := 145) dX11_changed_160 (by decide) ?_
    exact hT
set_option maxRecDepth 20000 in
theorem e_Mo_changed {s : Sto} {Q : Sto → Prop} (hT : H_Mo_changed_2 Q 0 s) : K_Mo_changed s Q := by
  refine Sp.body (by decide) (Nat.le_of_ble_eq_true rfl) ?_
  show Go SM M_Mo_changed (fV0 Q) 0 [(0, .ref 0)] [] s
  refine g_iconst (npc := 1) dX11_changed_0 rfl ?_
  refine g_istore_n (npc := 2) (l' := [(0, .ref 0), (1, iV 0)]) dX11_changed_1 rfl rfl (by decide) rfl ?_
  exact hT
abbrev H_Mo_begin_17 (Q : Sto → Prop) (x2 : Int) (s : Sto) : Prop := Go SM M_Mo_begin (fV0 Q) 17 [(0, .ref 0), (2, iV x2)] [] s
set_option maxRecDepth 20000 in
theorem b_Mo_begin_17 {Q : Sto → Prop} {x2 : Int} {s : Sto} (hT : (-2147483648 ≤ x2 ∧ x2 < 2147483648) ∧ ((8 ≤ x2) → ∃ Q6 : Sto → Prop, K_Mo_changed s Q6 ∧ ∀ s8, Q6 s8 → Q s8) ∧ ((x2 < 8) → (0 ≤ x2 ∧ x2 < 8) ∧ ∀ s12, s12 = up s 5 (Int.toNat x2) 0 → H_Mo_begin_17 Q (x2 + 1) s12)) : H_Mo_begin_17 Q x2 s := by
  refine g_iload_n (npc := 18) dX11_begin_17 rfl rfl rfl ?_
  refine g_bipush (npc := 20) (x := 8) dX11_begin_18 rfl (by decide) ?_
  obtain ⟨h4, hTt, hTf⟩ := hT
  refine g_icmp_ge (npc := 23) (tgt := 36) dX11_begin_20 rfl (by decide) ⟨h4, by decide, by decide⟩ (fun c5 => ?_) (fun c5 => ?_)
  · replace hT := hTt c5
    refine g_aload_n (npc := 37) dX11_begin_36 rfl rfl rfl ?_
    obtain ⟨Q6, h7, hT⟩ := hT
    refine iv_Mo_87 (npc := 40) dX11_begin_37 rfl rfl (Nat.le_of_ble_eq_true rfl) (by decide) h7 (fun s8 e10 => ?_)
    replace hT := hT s8 e10
    exact g_ret dX11_begin_40 rfl ⟨rfl, hT⟩
  · replace hT := hTf (Int.not_le.mp c5)
    refine g_aload_n (npc := 24) dX11_begin_23 rfl rfl rfl ?_
    refine gf_Mo_22 (npc := 27) dX11_begin_24 rfl rfl ?_
    refine g_iload_n (npc := 28) dX11_begin_27 rfl rfl rfl ?_
    refine g_iconst (npc := 29) dX11_begin_28 rfl ?_
    obtain ⟨h11, hT⟩ := hT
    replace hT := hT _ rfl
    refine g_iast (npc := 30) dX11_begin_29 rfl arSM_5 h11  ?_
    refine g_iinc (npc := 33) (y := (x2 + 1)) (l' := [(0, .ref 0), (2, iV (x2 + 1))]) dX11_begin_30 rfl (by decide) rfl (by omega) rfl ?_
    refine g_goto (npc := 17) dX11_begin_33 (by decide) ?_
    exact hT
set_option maxRecDepth 20000 in
theorem e_Mo_begin {x1 : Int} {s : Sto} {Q : Sto → Prop} (hT : ∀ s1, s1 = up s 0 0 x1 → ∀ s2, s2 = up s1 0 1 0 → ∀ s3, s3 = up s2 0 2 0 → H_Mo_begin_17 Q 0 s3) : K_Mo_begin x1 s Q := by
  refine Sp.body (by decide) (Nat.le_of_ble_eq_true rfl) ?_
  show Go SM M_Mo_begin (fV0 Q) 0 [(0, .ref 0), (1, iV x1)] [] s
  refine g_aload_n (npc := 1) dX11_begin_0 rfl rfl rfl ?_
  refine g_iload_n (npc := 2) dX11_begin_1 rfl rfl rfl ?_
  replace hT := hT _ rfl
  refine pf_Mo_77 (npc := 5) dX11_begin_2 rfl rfl ?_
  refine g_aload_n (npc := 6) dX11_begin_5 rfl rfl rfl ?_
  refine g_iconst (npc := 7) dX11_begin_6 rfl ?_
  replace hT := hT _ rfl
  refine pf_Mo_81 (npc := 10) dX11_begin_7 rfl rfl ?_
  refine g_aload_n (npc := 11) dX11_begin_10 rfl rfl rfl ?_
  refine g_iconst (npc := 12) dX11_begin_11 rfl ?_
  replace hT := hT _ rfl
  refine pf_Mo_84 (npc := 15) dX11_begin_12 rfl rfl ?_
  refine g_iconst (npc := 16) dX11_begin_15 rfl ?_
  refine g_istore_n (npc := 17) (l' := [(0, .ref 0), (1, iV x1), (2, iV 0)]) dX11_begin_16 rfl rfl (by decide) rfl ?_
  refine Go.lsub [0, 2] rfl ?_
  exact hT
set_option maxRecDepth 20000 in
theorem e_Mo_join {x1 : Int} {x2 : Int} {s : Sto} {Q : Sto → Prop} (hT : (0 ≤ (s 0 1) ∧ (s 0 1) < 20) ∧ ∀ s2, s2 = up s 1 (Int.toNat (s 0 1)) x1 → (0 ≤ (s2 0 1) ∧ (s2 0 1) < 20) ∧ ∀ s4, s4 = up s2 2 (Int.toNat (s2 0 1)) x2 → ∀ s5, s5 = up s4 0 1 ((s4 0 1) + 1) → ∃ Q6 : Sto → Prop, K_Mo_changed s5 Q6 ∧ ∀ s8, Q6 s8 → Q s8) : K_Mo_join x1 x2 s Q := by
  refine Sp.body (by decide) (Nat.le_of_ble_eq_true rfl) ?_
  show Go SM M_Mo_join (fV0 Q) 0 [(0, .ref 0), (1, iV x1), (2, iV x2)] [] s
  refine g_aload_n (npc := 1) dX11_join_0 rfl rfl rfl ?_
  refine gf_Mo_7 (npc := 4) dX11_join_1 rfl rfl ?_
  refine g_aload_n (npc := 5) dX11_join_4 rfl rfl rfl ?_
  refine gf_Mo_81 (npc := 8) dX11_join_5 rfl rfl ?_
  refine g_iload_n (npc := 9) dX11_join_8 rfl rfl rfl ?_
  obtain ⟨h1, hT⟩ := hT
  replace hT := hT _ rfl
  refine g_iast (npc := 10) dX11_join_9 rfl arSM_1 h1  ?_
  refine g_aload_n (npc := 11) dX11_join_10 rfl rfl rfl ?_
  refine gf_Mo_13 (npc := 14) dX11_join_11 rfl rfl ?_
  refine g_aload_n (npc := 15) dX11_join_14 rfl rfl rfl ?_
  refine gf_Mo_81 (npc := 18) dX11_join_15 rfl rfl ?_
  refine g_iload_n (npc := 19) dX11_join_18 rfl rfl rfl ?_
  obtain ⟨h3, hT⟩ := hT
  replace hT := hT _ rfl
  refine g_iast (npc := 20) dX11_join_19 rfl arSM_2 h3  ?_
  refine g_aload_n (npc := 21) dX11_join_20 rfl rfl rfl ?_
  refine g_dup (npc := 22) dX11_join_21 rfl rfl ?_
  refine gf_Mo_81 (npc := 25) dX11_join_22 rfl rfl ?_
  refine g_iconst (npc := 26) dX11_join_25 rfl ?_
  refine g_iadd (npc := 27) dX11_join_26 rfl ?_
  replace hT := hT _ rfl
  refine pf_Mo_81 (npc := 30) dX11_join_27 rfl rfl ?_
  refine g_aload_n (npc := 31) dX11_join_30 rfl rfl rfl ?_
  obtain ⟨Q6, h7, hT⟩ := hT
  refine iv_Mo_87 (npc := 34) dX11_join_31 rfl rfl (Nat.le_of_ble_eq_true rfl) (by decide) h7 (fun s8 e10 => ?_)
  replace hT := hT s8 e10
  exact g_ret dX11_join_34 rfl ⟨rfl, hT⟩
set_option maxRecDepth 20000 in
theorem e_Mo_in {x0 : Int} {x1 : Int} {x2 : Int} {s : Sto} {Q : Int → Sto → Prop} (hT : ((-2147483648 ≤ x0 ∧ x0 < 2147483648) ∧ -2147483648 ≤ x1 ∧ x1 < 2147483648) ∧ ((x0 < x1) → Q 0 s) ∧ ((x1 ≤ x0) → ((-2147483648 ≤ x0 ∧ x0 < 2147483648) ∧ -2147483648 ≤ x2 ∧ x2 < 2147483648) ∧ ((x2 < x0) → Q 0 s) ∧ ((x0 ≤ x2) → Q 1 s))) : K_Mo_in x0 x1 x2 s Q := by
  refine Sp.body (by decide) (Nat.le_of_ble_eq_true rfl) ?_
  show Go SM M_Mo_in (fI Q) 0 [(0, iV x0), (1, iV x1), (2, iV x2)] [] s
  refine g_iload_n (npc := 1) dX11_in_0 rfl rfl rfl ?_
  refine g_iload_n (npc := 2) dX11_in_1 rfl rfl rfl ?_
  obtain ⟨h1, hTt, hTf⟩ := hT
  refine g_icmp_lt (npc := 5) (tgt := 14) dX11_in_2 rfl (by decide) h1 (fun c2 => ?_) (fun c2 => ?_)
  · replace hT := hTt c2
    refine g_iconst (npc := 15) dX11_in_14 rfl ?_
    exact g_iret dX11_in_15 rfl (by decide) ⟨_, rfl, hT⟩
  · replace hT := hTf (Int.not_lt.mp c2)
    refine g_iload_n (npc := 6) dX11_in_5 rfl rfl rfl ?_
    refine g_iload_n (npc := 7) dX11_in_6 rfl rfl rfl ?_
    obtain ⟨h3, hTt, hTf⟩ := hT
    refine g_icmp_gt (npc := 10) (tgt := 14) dX11_in_7 rfl (by decide) h3 (fun c4 => ?_) (fun c4 => ?_)
    · replace hT := hTt c4
      refine g_iconst (npc := 15) dX11_in_14 rfl ?_
      exact g_iret dX11_in_15 rfl (by decide) ⟨_, rfl, hT⟩
    · replace hT := hTf (Int.not_lt.mp c4)
      refine g_iconst (npc := 11) dX11_in_10 rfl ?_
      refine g_goto (npc := 15) dX11_in_11 (by decide) ?_
      exact g_iret dX11_in_15 rfl (by decide) ⟨_, rfl, hT⟩
set_option maxRecDepth 20000 in
theorem e_Mo_reset {x1 : Int} {s : Sto} {Q : Int → Sto → Prop} (hT : ∃ Q1 : Int → Sto → Prop, K_Mo_in x1 2 8 s Q1 ∧ ∀ r4 s3, Q1 r4 s3 → (-2147483648 ≤ r4 ∧ r4 < 2147483648) ∧ ((¬ r4 = 0) → ∃ Q8 : Sto → Prop, K_Mo_begin x1 s3 Q8 ∧ ∀ s10, Q8 s10 → Q (s3 0 0) s10) ∧ ((r4 = 0) → Q (-10002) s3)) : K_Mo_reset x1 s Q := by
  refine Sp.body (by decide) (Nat.le_of_ble_eq_true rfl) ?_
  show Go SM M_Mo_reset (fI Q) 0 [(0, .ref 0), (1, iV x1)] [] s
  refine g_iload_n (npc := 1) dX11_reset_0 rfl rfl rfl ?_
  refine g_iconst (npc := 2) dX11_reset_1 rfl ?_
  refine g_bipush (npc := 4) (x := 8) dX11_reset_2 rfl (by decide) ?_
  obtain ⟨Q1, h2, hT⟩ := hT
  refine iv_Mo_97 (npc := 7) dX11_reset_4 rfl rfl (Nat.le_of_ble_eq_true rfl) (by decide) h2 (fun r4 s3 e5 => ?_)
  replace hT := hT r4 s3 e5
  obtain ⟨h6, hTt, hTf⟩ := hT
  refine g_if_ne (npc := 10) (tgt := 14) dX11_reset_7 rfl (by decide) h6 (fun c7 => ?_) (fun c7 => ?_)
  · replace hT := hTt c7
    refine g_aload_n (npc := 15) dX11_reset_14 rfl rfl rfl ?_
    refine gf_Mo_77 (npc := 18) dX11_reset_15 rfl rfl ?_
    refine g_istore_n (npc := 19) (l' := [(0, .ref 0), (1, iV x1), (2, iV (s3 0 0))]) dX11_reset_18 rfl rfl (by decide) rfl ?_
    refine g_aload_n (npc := 20) dX11_reset_19 rfl rfl rfl ?_
    refine g_iload_n (npc := 21) dX11_reset_20 rfl rfl rfl ?_
    obtain ⟨Q8, h9, hT⟩ := hT
    refine iv_Mo_67 (npc := 24) dX11_reset_21 rfl rfl (Nat.le_of_ble_eq_true rfl) (by decide) h9 (fun s10 e12 => ?_)
    replace hT := hT s10 e12
    refine g_iload_n (npc := 25) dX11_reset_24 rfl rfl rfl ?_
    exact g_iret dX11_reset_25 rfl rfl ⟨_, rfl, hT⟩
  · replace hT := hTf (Decidable.not_not.mp c7)
    refine g_sipush (npc := 13) (x := (-10002)) dX11_reset_10 rfl (by decide) ?_
    exact g_iret dX11_reset_13 rfl rfl ⟨_, rfl, hT⟩
set_option maxRecDepth 20000 in
theorem e_Mo_isNode {x1 : Int} {s : Sto} {Q : Int → Sto → Prop} (hT : ∃ Q1 : Int → Sto → Prop, K_Mo_in x1 0 ((s 0 0) - 1) s Q1 ∧ ∀ r4 s3, Q1 r4 s3 → (r4 = 0 ∨ r4 = 1) ∧ Q r4 s3) : K_Mo_isNode x1 s Q := by
  refine Sp.body (by decide) (Nat.le_of_ble_eq_true rfl) ?_
  show Go SM M_Mo_isNode (fI Q) 0 [(0, .ref 0), (1, iV x1)] [] s
  refine g_iload_n (npc := 1) dX11_isNode_0 rfl rfl rfl ?_
  refine g_iconst (npc := 2) dX11_isNode_1 rfl ?_
  refine g_aload_n (npc := 3) dX11_isNode_2 rfl rfl rfl ?_
  refine gf_Mo_77 (npc := 6) dX11_isNode_3 rfl rfl ?_
  refine g_iconst (npc := 7) dX11_isNode_6 rfl ?_
  refine g_isub (npc := 8) dX11_isNode_7 rfl ?_
  obtain ⟨Q1, h2, hT⟩ := hT
  refine iv_Mo_97 (npc := 11) dX11_isNode_8 rfl rfl (Nat.le_of_ble_eq_true rfl) (by decide) h2 (fun r4 s3 e5 => ?_)
  replace hT := hT r4 s3 e5
  obtain ⟨h6, hT⟩ := hT
  exact g_iret dX11_isNode_11 rfl (nar_zv h6) ⟨_, rfl, hT⟩
set_option maxRecDepth 20000 in
theorem e_Mo_addEdge {x1 : Int} {x2 : Int} {s : Sto} {Q : Int → Sto → Prop} (hT : ∃ Q1 : Int → Sto → Prop, K_Mo_isNode x1 s Q1 ∧ ∀ r4 s3, Q1 r4 s3 → (-2147483648 ≤ r4 ∧ r4 < 2147483648) ∧ ((r4 = 0) → Q (-10001) s3) ∧ ((¬ r4 = 0) → ∃ Q8 : Int → Sto → Prop, K_Mo_isNode x2 s3 Q8 ∧ ∀ r11 s10, Q8 r11 s10 → (-2147483648 ≤ r11 ∧ r11 < 2147483648) ∧ ((¬ r11 = 0) → ((-2147483648 ≤ x1 ∧ x1 < 2147483648) ∧ -2147483648 ≤ x2 ∧ x2 < 2147483648) ∧ ((¬ x1 = x2) → (-2147483648 ≤ (s10 0 1) ∧ (s10 0 1) < 2147483648) ∧ ((¬ (s10 0 1) = 20) → ∃ Q19 : Sto → Prop, K_Mo_join x1 x2 s10 Q19 ∧ ∀ s21, Q19 s21 → Q ((s21 0 1) - 1) s21) ∧ (((s10 0 1) = 20) → Q (-10005) s10)) ∧ ((x1 = x2) → Q (-10002) s10)) ∧ ((r11 = 0) → Q (-10001) s10))) : K_Mo_addEdge x1 x2 s Q := by
  refine Sp.body (by decide) (Nat.le_of_ble_eq_true rfl) ?_
  show Go SM M_Mo_addEdge (fI Q) 0 [(0, .ref 0), (1, iV x1), (2, iV x2)] [] s
  refine g_aload_n (npc := 1) dX11_addEdge_0 rfl rfl rfl ?_
  refine g_iload_n (npc := 2) dX11_addEdge_1 rfl rfl rfl ?_
  obtain ⟨Q1, h2, hT⟩ := hT
  refine iv_Mo_101 (npc := 5) dX11_addEdge_2 rfl rfl (Nat.le_of_ble_eq_true rfl) (by decide) h2 (fun r4 s3 e5 => ?_)
  replace hT := hT r4 s3 e5
  obtain ⟨h6, hTt, hTf⟩ := hT
  refine g_if_eq (npc := 8) (tgt := 16) dX11_addEdge_5 rfl (by decide) h6 (fun c7 => ?_) (fun c7 => ?_)
  · replace hT := hTt c7
    refine g_sipush (npc := 19) (x := (-10001)) dX11_addEdge_16 rfl (by decide) ?_
    exact g_iret dX11_addEdge_19 rfl rfl ⟨_, rfl, hT⟩
  · replace hT := hTf c7
    refine g_aload_n (npc := 9) dX11_addEdge_8 rfl rfl rfl ?_
    refine g_iload_n (npc := 10) dX11_addEdge_9 rfl rfl rfl ?_
    obtain ⟨Q8, h9, hT⟩ := hT
    refine iv_Mo_101 (npc := 13) dX11_addEdge_10 rfl rfl (Nat.le_of_ble_eq_true rfl) (by decide) h9 (fun r11 s10 e12 => ?_)
    replace hT := hT r11 s10 e12
    obtain ⟨h13, hTt, hTf⟩ := hT
    refine g_if_ne (npc := 16) (tgt := 20) dX11_addEdge_13 rfl (by decide) h13 (fun c14 => ?_) (fun c14 => ?_)
    · replace hT := hTt c14
      refine g_iload_n (npc := 21) dX11_addEdge_20 rfl rfl rfl ?_
      refine g_iload_n (npc := 22) dX11_addEdge_21 rfl rfl rfl ?_
      obtain ⟨h15, hTt, hTf⟩ := hT
      refine g_icmp_ne (npc := 25) (tgt := 29) dX11_addEdge_22 rfl (by decide) h15 (fun c16 => ?_) (fun c16 => ?_)
      · replace hT := hTt c16
        refine g_aload_n (npc := 30) dX11_addEdge_29 rfl rfl rfl ?_
        refine gf_Mo_81 (npc := 33) dX11_addEdge_30 rfl rfl ?_
        refine g_bipush (npc := 35) (x := 20) dX11_addEdge_33 rfl (by decide) ?_
        obtain ⟨h17, hTt, hTf⟩ := hT
        refine g_icmp_ne (npc := 38) (tgt := 42) dX11_addEdge_35 rfl (by decide) ⟨h17, by decide, by decide⟩ (fun c18 => ?_) (fun c18 => ?_)
        · replace hT := hTt c18
          refine g_aload_n (npc := 43) dX11_addEdge_42 rfl rfl rfl ?_
          refine g_iload_n (npc := 44) dX11_addEdge_43 rfl rfl rfl ?_
          refine g_iload_n (npc := 45) dX11_addEdge_44 rfl rfl rfl ?_
          obtain ⟨Q19, h20, hT⟩ := hT
          refine iv_Mo_71 (npc := 48) dX11_addEdge_45 rfl rfl (Nat.le_of_ble_eq_true rfl) (by decide) h20 (fun s21 e23 => ?_)
          replace hT := hT s21 e23
          refine g_aload_n (npc := 49) dX11_addEdge_48 rfl rfl rfl ?_
          refine gf_Mo_81 (npc := 52) dX11_addEdge_49 rfl rfl ?_
          refine g_iconst (npc := 53) dX11_addEdge_52 rfl ?_
          refine g_isub (npc := 54) dX11_addEdge_53 rfl ?_
          exact g_iret dX11_addEdge_54 rfl rfl ⟨_, rfl, hT⟩
        · replace hT := hTf (Decidable.not_not.mp c18)
          refine g_sipush (npc := 41) (x := (-10005)) dX11_addEdge_38 rfl (by decide) ?_
          exact g_iret dX11_addEdge_41 rfl rfl ⟨_, rfl, hT⟩
      · replace hT := hTf (Decidable.not_not.mp c16)
        refine g_sipush (npc := 28) (x := (-10002)) dX11_addEdge_25 rfl (by decide) ?_
        exact g_iret dX11_addEdge_28 rfl rfl ⟨_, rfl, hT⟩
    · replace hT := hTf (Decidable.not_not.mp c14)
      refine g_sipush (npc := 19) (x := (-10001)) dX11_addEdge_16 rfl (by decide) ?_
      exact g_iret dX11_addEdge_19 rfl rfl ⟨_, rfl, hT⟩
abbrev H_Mo_removeEdge_30 (Q : Int → Sto → Prop) (x2 : Int) (s : Sto) : Prop := Go SM M_Mo_removeEdge (fI Q) 30 [(0, .ref 0), (2, iV x2)] [] s
set_option maxRecDepth 20000 in
theorem b_Mo_removeEdge_30 {Q : Int → Sto → Prop} {x2 : Int} {s : Sto} (hT : ((-2147483648 ≤ x2 ∧ x2 < 2147483648) ∧ -2147483648 ≤ (s 0 1) ∧ (s 0 1) < 2147483648) ∧ (((s 0 1) ≤ x2) → ∃ Q11 : Sto → Prop, K_Mo_changed s Q11 ∧ ∀ s13, Q11 s13 → Q (s13 0 1) s13) ∧ ((x2 < (s 0 1)) → (0 ≤ (x2 + 1) ∧ (x2 + 1) < 20) ∧ (0 ≤ x2 ∧ x2 < 20) ∧ ∀ s18, s18 = up s 1 (Int.toNat x2) (s 1 (Int.toNat (x2 + 1))) → (0 ≤ (x2 + 1) ∧ (x2 + 1) < 20) ∧ (0 ≤ x2 ∧ x2 < 20) ∧ ∀ s21, s21 = up s18 2 (Int.toNat x2) (s18 2 (Int.toNat (x2 + 1))) → H_Mo_removeEdge_30 Q (x2 + 1) s21)) : H_Mo_removeEdge_30 Q x2 s := by
  refine g_iload_n (npc := 31) dX11_removeEdge_30 rfl rfl rfl ?_
  refine g_aload_n (npc := 32) dX11_removeEdge_31 rfl rfl rfl ?_
  refine gf_Mo_81 (npc := 35) dX11_removeEdge_32 rfl rfl ?_
  obtain ⟨h9, hTt, hTf⟩ := hT
  refine g_icmp_ge (npc := 38) (tgt := 72) dX11_removeEdge_35 rfl (by decide) h9 (fun c10 => ?_) (fun c10 => ?_)
  · replace hT := hTt c10
    refine g_aload_n (npc := 73) dX11_removeEdge_72 rfl rfl rfl ?_
    obtain ⟨Q11, h12, hT⟩ := hT
    refine iv_Mo_87 (npc := 76) dX11_removeEdge_73 rfl rfl (Nat.le_of_ble_eq_true rfl) (by decide) h12 (fun s13 e15 => ?_)
    replace hT := hT s13 e15
    refine g_aload_n (npc := 77) dX11_removeEdge_76 rfl rfl rfl ?_
    refine gf_Mo_81 (npc := 80) dX11_removeEdge_77 rfl rfl ?_
    exact g_iret dX11_removeEdge_80 rfl rfl ⟨_, rfl, hT⟩
  · replace hT := hTf (Int.not_le.mp c10)
    refine g_aload_n (npc := 39) dX11_removeEdge_38 rfl rfl rfl ?_
    refine gf_Mo_7 (npc := 42) dX11_removeEdge_39 rfl rfl ?_
    refine g_iload_n (npc := 43) dX11_removeEdge_42 rfl rfl rfl ?_
    refine g_aload_n (npc := 44) dX11_removeEdge_43 rfl rfl rfl ?_
    refine gf_Mo_7 (npc := 47) dX11_removeEdge_44 rfl rfl ?_
    refine g_iload_n (npc := 48) dX11_removeEdge_47 rfl rfl rfl ?_
    refine g_iconst (npc := 49) dX11_removeEdge_48 rfl ?_
    refine g_iadd (npc := 50) dX11_removeEdge_49 rfl ?_
    obtain ⟨h16, hT⟩ := hT
    refine g_iald (npc := 51) dX11_removeEdge_50 rfl arSM_1 h16 ?_
    obtain ⟨h17, hT⟩ := hT
    replace hT := hT _ rfl
    refine g_iast (npc := 52) dX11_removeEdge_51 rfl arSM_1 h17  ?_
    refine g_aload_n (npc := 53) dX11_removeEdge_52 rfl rfl rfl ?_
    refine gf_Mo_13 (npc := 56) dX11_removeEdge_53 rfl rfl ?_
    refine g_iload_n (npc := 57) dX11_removeEdge_56 rfl rfl rfl ?_
    refine g_aload_n (npc := 58) dX11_removeEdge_57 rfl rfl rfl ?_
    refine gf_Mo_13 (npc := 61) dX11_removeEdge_58 rfl rfl ?_
    refine g_iload_n (npc := 62) dX11_removeEdge_61 rfl rfl rfl ?_
    refine g_iconst (npc := 63) dX11_removeEdge_62 rfl ?_
    refine g_iadd (npc := 64) dX11_removeEdge_63 rfl ?_
    obtain ⟨h19, hT⟩ := hT
    refine g_iald (npc := 65) dX11_removeEdge_64 rfl arSM_2 h19 ?_
    obtain ⟨h20, hT⟩ := hT
    replace hT := hT _ rfl
    refine g_iast (npc := 66) dX11_removeEdge_65 rfl arSM_2 h20  ?_
    refine g_iinc (npc := 69) (y := (x2 + 1)) (l' := [(0, .ref 0), (2, iV (x2 + 1))]) dX11_removeEdge_66 rfl (by decide) rfl (by omega) rfl ?_
    refine g_goto (npc := 30) dX11_removeEdge_69 (by decide) ?_
    exact hT
set_option maxRecDepth 20000 in
theorem e_Mo_removeEdge {x1 : Int} {s : Sto} {Q : Int → Sto → Prop} (hT : ∃ Q1 : Int → Sto → Prop, K_Mo_in x1 0 ((s 0 1) - 1) s Q1 ∧ ∀ r4 s3, Q1 r4 s3 → (-2147483648 ≤ r4 ∧ r4 < 2147483648) ∧ ((¬ r4 = 0) → ∀ s8, s8 = up s3 0 1 ((s3 0 1) - 1) → H_Mo_removeEdge_30 Q x1 s8) ∧ ((r4 = 0) → Q (-10001) s3)) : K_Mo_removeEdge x1 s Q := by
  refine Sp.body (by decide) (Nat.le_of_ble_eq_true rfl) ?_
  show Go SM M_Mo_removeEdge (fI Q) 0 [(0, .ref 0), (1, iV x1)] [] s
  refine g_iload_n (npc := 1) dX11_removeEdge_0 rfl rfl rfl ?_
  refine g_iconst (npc := 2) dX11_removeEdge_1 rfl ?_
  refine g_aload_n (npc := 3) dX11_removeEdge_2 rfl rfl rfl ?_
  refine gf_Mo_81 (npc := 6) dX11_removeEdge_3 rfl rfl ?_
  refine g_iconst (npc := 7) dX11_removeEdge_6 rfl ?_
  refine g_isub (npc := 8) dX11_removeEdge_7 rfl ?_
  obtain ⟨Q1, h2, hT⟩ := hT
  refine iv_Mo_97 (npc := 11) dX11_removeEdge_8 rfl rfl (Nat.le_of_ble_eq_true rfl) (by decide) h2 (fun r4 s3 e5 => ?_)
  replace hT := hT r4 s3 e5
  obtain ⟨h6, hTt, hTf⟩ := hT
  refine g_if_ne (npc := 14) (tgt := 18) dX11_removeEdge_11 rfl (by decide) h6 (fun c7 => ?_) (fun c7 => ?_)
  · replace hT := hTt c7
    refine g_aload_n (npc := 19) dX11_removeEdge_18 rfl rfl rfl ?_
    refine g_dup (npc := 20) dX11_removeEdge_19 rfl rfl ?_
    refine gf_Mo_81 (npc := 23) dX11_removeEdge_20 rfl rfl ?_
    refine g_iconst (npc := 24) dX11_removeEdge_23 rfl ?_
    refine g_isub (npc := 25) dX11_removeEdge_24 rfl ?_
    replace hT := hT _ rfl
    refine pf_Mo_81 (npc := 28) dX11_removeEdge_25 rfl rfl ?_
    refine g_iload_n (npc := 29) dX11_removeEdge_28 rfl rfl rfl ?_
    refine g_istore_n (npc := 30) (l' := [(0, .ref 0), (1, iV x1), (2, iV x1)]) dX11_removeEdge_29 rfl rfl (by decide) rfl ?_
    refine Go.lsub [0, 2] rfl ?_
    exact hT
  · replace hT := hTf (Decidable.not_not.mp c7)
    refine g_sipush (npc := 17) (x := (-10001)) dX11_removeEdge_14 rfl (by decide) ?_
    exact g_iret dX11_removeEdge_17 rfl rfl ⟨_, rfl, hT⟩
set_option maxRecDepth 20000 in
theorem e_Mo_setSink {x1 : Int} {s : Sto} {Q : Int → Sto → Prop} (hT : ∃ Q1 : Int → Sto → Prop, K_Mo_isNode x1 s Q1 ∧ ∀ r4 s3, Q1 r4 s3 → (-2147483648 ≤ r4 ∧ r4 < 2147483648) ∧ ((¬ r4 = 0) → ((-2147483648 ≤ x1 ∧ x1 < 2147483648) ∧ -2147483648 ≤ (s3 0 2) ∧ (s3 0 2) < 2147483648) ∧ ((x1 = (s3 0 2)) → Q (s3 0 2) s3) ∧ ((¬ x1 = (s3 0 2)) → ∀ s10, s10 = up s3 0 2 x1 → (0 ≤ x1 ∧ x1 < 8) ∧ ∀ s12, s12 = up s10 5 (Int.toNat x1) 0 → ∃ Q13 : Sto → Prop, K_Mo_changed s12 Q13 ∧ ∀ s15, Q13 s15 → Q (s3 0 2) s15)) ∧ ((r4 = 0) → Q (-10001) s3)) : K_Mo_setSink x1 s Q := by
  refine Sp.body (by decide) (Nat.le_of_ble_eq_true rfl) ?_
  show Go SM M_Mo_setSink (fI Q) 0 [(0, .ref 0), (1, iV x1)] [] s
  refine g_aload_n (npc := 1) dX11_setSink_0 rfl rfl rfl ?_
  refine g_iload_n (npc := 2) dX11_setSink_1 rfl rfl rfl ?_
  obtain ⟨Q1, h2, hT⟩ := hT
  refine iv_Mo_101 (npc := 5) dX11_setSink_2 rfl rfl (Nat.le_of_ble_eq_true rfl) (by decide) h2 (fun r4 s3 e5 => ?_)
  replace hT := hT r4 s3 e5
  obtain ⟨h6, hTt, hTf⟩ := hT
  refine g_if_ne (npc := 8) (tgt := 12) dX11_setSink_5 rfl (by decide) h6 (fun c7 => ?_) (fun c7 => ?_)
  · replace hT := hTt c7
    refine g_aload_n (npc := 13) dX11_setSink_12 rfl rfl rfl ?_
    refine gf_Mo_84 (npc := 16) dX11_setSink_13 rfl rfl ?_
    refine g_istore_n (npc := 17) (l' := [(0, .ref 0), (1, iV x1), (2, iV (s3 0 2))]) dX11_setSink_16 rfl rfl (by decide) rfl ?_
    refine g_iload_n (npc := 18) dX11_setSink_17 rfl rfl rfl ?_
    refine g_aload_n (npc := 19) dX11_setSink_18 rfl rfl rfl ?_
    refine gf_Mo_84 (npc := 22) dX11_setSink_19 rfl rfl ?_
    obtain ⟨h8, hTt, hTf⟩ := hT
    refine g_icmp_eq (npc := 25) (tgt := 41) dX11_setSink_22 rfl (by decide) h8 (fun c9 => ?_) (fun c9 => ?_)
    · replace hT := hTt c9
      refine g_iload_n (npc := 42) dX11_setSink_41 rfl rfl rfl ?_
      exact g_iret dX11_setSink_42 rfl rfl ⟨_, rfl, hT⟩
    · replace hT := hTf c9
      refine g_aload_n (npc := 26) dX11_setSink_25 rfl rfl rfl ?_
      refine g_iload_n (npc := 27) dX11_setSink_26 rfl rfl rfl ?_
      replace hT := hT _ rfl
      refine pf_Mo_84 (npc := 30) dX11_setSink_27 rfl rfl ?_
      refine g_aload_n (npc := 31) dX11_setSink_30 rfl rfl rfl ?_
      refine gf_Mo_22 (npc := 34) dX11_setSink_31 rfl rfl ?_
      refine g_iload_n (npc := 35) dX11_setSink_34 rfl rfl rfl ?_
      refine g_iconst (npc := 36) dX11_setSink_35 rfl ?_
      obtain ⟨h11, hT⟩ := hT
      replace hT := hT _ rfl
      refine g_iast (npc := 37) dX11_setSink_36 rfl arSM_5 h11  ?_
      refine g_aload_n (npc := 38) dX11_setSink_37 rfl rfl rfl ?_
      obtain ⟨Q13, h14, hT⟩ := hT
      refine iv_Mo_87 (npc := 41) dX11_setSink_38 rfl rfl (Nat.le_of_ble_eq_true rfl) (by decide) h14 (fun s15 e17 => ?_)
      replace hT := hT s15 e17
      refine g_iload_n (npc := 42) dX11_setSink_41 rfl rfl rfl ?_
      exact g_iret dX11_setSink_42 rfl rfl ⟨_, rfl, hT⟩
  · replace hT := hTf (Decidable.not_not.mp c7)
    refine g_sipush (npc := 11) (x := (-10001)) dX11_setSink_8 rfl (by decide) ?_
    exact g_iret dX11_setSink_11 rfl rfl ⟨_, rfl, hT⟩
set_option maxRecDepth 20000 in
theorem e_Mo_type {x1 : Int} {s : Sto} {Q : Int → Sto → Prop} (hT : (-2147483648 ≤ (s 0 8) ∧ (s 0 8) < 2147483648) ∧ ((¬ (s 0 8) = 12) → (0 ≤ (s 0 8) ∧ (s 0 8) < 12) ∧ (0 ≤ x1 ∧ x1 < 65536) ∧ ∀ s4, s4 = up s 6 (Int.toNat (s 0 8)) x1 → ∀ s6, s6 = up s4 0 8 ((s4 0 8) + 1) → Q (s6 0 8) s6) ∧ (((s 0 8) = 12) → Q (-10005) s)) : K_Mo_type x1 s Q := by
  refine Sp.body (by decide) (Nat.le_of_ble_eq_true rfl) ?_
  show Go SM M_Mo_type (fI Q) 0 [(0, .ref 0), (1, iV x1)] [] s
  refine g_aload_n (npc := 1) dX11_type_0 rfl rfl rfl ?_
  refine gf_Mo_105 (npc := 4) dX11_type_1 rfl rfl ?_
  refine g_bipush (npc := 6) (x := 12) dX11_type_4 rfl (by decide) ?_
  obtain ⟨h1, hTt, hTf⟩ := hT
  refine g_icmp_ne (npc := 9) (tgt := 13) dX11_type_6 rfl (by decide) ⟨h1, by decide, by decide⟩ (fun c2 => ?_) (fun c2 => ?_)
  · replace hT := hTt c2
    refine g_aload_n (npc := 14) dX11_type_13 rfl rfl rfl ?_
    refine gf_Mo_25 (npc := 17) dX11_type_14 rfl rfl ?_
    refine g_aload_n (npc := 18) dX11_type_17 rfl rfl rfl ?_
    refine gf_Mo_105 (npc := 21) dX11_type_18 rfl rfl ?_
    refine g_iload_n (npc := 22) dX11_type_21 rfl rfl rfl ?_
    obtain ⟨h3, hT⟩ := hT
    obtain ⟨h5, hT⟩ := hT
    replace hT := hT _ rfl
    refine g_cast (npc := 23) dX11_type_22 rfl arSM_6 h3 (nar_c h5) ?_
    refine g_aload_n (npc := 24) dX11_type_23 rfl rfl rfl ?_
    refine g_dup (npc := 25) dX11_type_24 rfl rfl ?_
    refine gf_Mo_105 (npc := 28) dX11_type_25 rfl rfl ?_
    refine g_iconst (npc := 29) dX11_type_28 rfl ?_
    refine g_iadd (npc := 30) dX11_type_29 rfl ?_
    replace hT := hT _ rfl
    refine pf_Mo_105 (npc := 33) dX11_type_30 rfl rfl ?_
    refine g_aload_n (npc := 34) dX11_type_33 rfl rfl rfl ?_
    refine gf_Mo_105 (npc := 37) dX11_type_34 rfl rfl ?_
    exact g_iret dX11_type_37 rfl rfl ⟨_, rfl, hT⟩
  · replace hT := hTf (Decidable.not_not.mp c2)
    refine g_sipush (npc := 12) (x := (-10005)) dX11_type_9 rfl (by decide) ?_
    exact g_iret dX11_type_12 rfl rfl ⟨_, rfl, hT⟩
set_option maxRecDepth 20000 in
theorem e_Mo_clearText {s : Sto} {Q : Int → Sto → Prop} (hT : ∀ s1, s1 = up s 0 8 0 → Q (s 0 8) s1) : K_Mo_clearText s Q := by
  refine Sp.body (by decide) (Nat.le_of_ble_eq_true rfl) ?_
  show Go SM M_Mo_clearText (fI Q) 0 [(0, .ref 0)] [] s
  refine g_aload_n (npc := 1) dX11_clearText_0 rfl rfl rfl ?_
  refine gf_Mo_105 (npc := 4) dX11_clearText_1 rfl rfl ?_
  refine g_istore_n (npc := 5) (l' := [(0, .ref 0), (1, iV (s 0 8))]) dX11_clearText_4 rfl rfl (by decide) rfl ?_
  refine g_aload_n (npc := 6) dX11_clearText_5 rfl rfl rfl ?_
  refine g_iconst (npc := 7) dX11_clearText_6 rfl ?_
  replace hT := hT _ rfl
  refine pf_Mo_105 (npc := 10) dX11_clearText_7 rfl rfl ?_
  refine g_iload_n (npc := 11) dX11_clearText_10 rfl rfl rfl ?_
  exact g_iret dX11_clearText_11 rfl rfl ⟨_, rfl, hT⟩
set_option maxRecDepth 20000 in
theorem e_Mo_isAt {x1 : Int} {x2 : Int} {s : Sto} {Q : Int → Sto → Prop} (hT : ((-2147483648 ≤ x1 ∧ x1 < 2147483648) ∧ -2147483648 ≤ (s 0 8) ∧ (s 0 8) < 2147483648) ∧ (((s 0 8) ≤ x1) → Q 0 s) ∧ ((x1 < (s 0 8)) → (0 ≤ x1 ∧ x1 < 12) ∧ ((-2147483648 ≤ (s 6 (Int.toNat x1)) ∧ (s 6 (Int.toNat x1)) < 2147483648) ∧ -2147483648 ≤ x2 ∧ x2 < 2147483648) ∧ ((¬ (s 6 (Int.toNat x1)) = x2) → Q 0 s) ∧ (((s 6 (Int.toNat x1)) = x2) → Q 1 s))) : K_Mo_isAt x1 x2 s Q := by
  refine Sp.body (by decide) (Nat.le_of_ble_eq_true rfl) ?_
  show Go SM M_Mo_isAt (fI Q) 0 [(0, .ref 0), (1, iV x1), (2, iV x2)] [] s
  refine g_iload_n (npc := 1) dX11_isAt_0 rfl rfl rfl ?_
  refine g_aload_n (npc := 2) dX11_isAt_1 rfl rfl rfl ?_
  refine gf_Mo_105 (npc := 5) dX11_isAt_2 rfl rfl ?_
  obtain ⟨h1, hTt, hTf⟩ := hT
  refine g_icmp_ge (npc := 8) (tgt := 22) dX11_isAt_5 rfl (by decide) h1 (fun c2 => ?_) (fun c2 => ?_)
  · replace hT := hTt c2
    refine g_iconst (npc := 23) dX11_isAt_22 rfl ?_
    exact g_iret dX11_isAt_23 rfl (by decide) ⟨_, rfl, hT⟩
  · replace hT := hTf (Int.not_le.mp c2)
    refine g_aload_n (npc := 9) dX11_isAt_8 rfl rfl rfl ?_
    refine gf_Mo_25 (npc := 12) dX11_isAt_9 rfl rfl ?_
    refine g_iload_n (npc := 13) dX11_isAt_12 rfl rfl rfl ?_
    obtain ⟨h3, hT⟩ := hT
    refine g_cald (npc := 14) dX11_isAt_13 rfl arSM_6 h3 ?_
    refine g_iload_n (npc := 15) dX11_isAt_14 rfl rfl rfl ?_
    obtain ⟨h4, hTt, hTf⟩ := hT
    refine g_icmp_ne (npc := 18) (tgt := 22) dX11_isAt_15 rfl (by decide) h4 (fun c5 => ?_) (fun c5 => ?_)
    · replace hT := hTt c5
      refine g_iconst (npc := 23) dX11_isAt_22 rfl ?_
      exact g_iret dX11_isAt_23 rfl (by decide) ⟨_, rfl, hT⟩
    · replace hT := hTf (Decidable.not_not.mp c5)
      refine g_iconst (npc := 19) dX11_isAt_18 rfl ?_
      refine g_goto (npc := 23) dX11_isAt_19 (by decide) ?_
      exact g_iret dX11_isAt_23 rfl (by decide) ⟨_, rfl, hT⟩
set_option maxRecDepth 20000 in
theorem e_Mo_begins {x1 : Int} {x2 : Int} {x3 : Int} {x4 : Int} {s : Sto} {Q : Int → Sto → Prop} (hT : ∃ Q1 : Int → Sto → Prop, K_Mo_isAt 0 x1 s Q1 ∧ ∀ r4 s3, Q1 r4 s3 → (-2147483648 ≤ r4 ∧ r4 < 2147483648) ∧ ((r4 = 0) → Q 0 s3) ∧ ((¬ r4 = 0) → ∃ Q8 : Int → Sto → Prop, K_Mo_isAt 1 x2 s3 Q8 ∧ ∀ r11 s10, Q8 r11 s10 → (-2147483648 ≤ r11 ∧ r11 < 2147483648) ∧ ((r11 = 0) → Q 0 s10) ∧ ((¬ r11 = 0) → ∃ Q15 : Int → Sto → Prop, K_Mo_isAt 2 x3 s10 Q15 ∧ ∀ r18 s17, Q15 r18 s17 → (-2147483648 ≤ r18 ∧ r18 < 2147483648) ∧ ((r18 = 0) → Q 0 s17) ∧ ((¬ r18 = 0) → ∃ Q22 : Int → Sto → Prop, K_Mo_isAt 3 x4 s17 Q22 ∧ ∀ r25 s24, Q22 r25 s24 → (-2147483648 ≤ r25 ∧ r25 < 2147483648) ∧ ((r25 = 0) → Q 0 s24) ∧ ((¬ r25 = 0) → Q 1 s24))))) : K_Mo_begins x1 x2 x3 x4 s Q := by
  refine Sp.body (by decide) (Nat.le_of_ble_eq_true rfl) ?_
  show Go SM M_Mo_begins (fI Q) 0 [(0, .ref 0), (1, iV x1), (2, iV x2), (3, iV x3), (4, iV x4)] [] s
  refine g_aload_n (npc := 1) dX11_begins_0 rfl rfl rfl ?_
  refine g_iconst (npc := 2) dX11_begins_1 rfl ?_
  refine g_iload_n (npc := 3) dX11_begins_2 rfl rfl rfl ?_
  obtain ⟨Q1, h2, hT⟩ := hT
  refine iv_Mo_108 (npc := 6) dX11_begins_3 rfl rfl (Nat.le_of_ble_eq_true rfl) (by decide) h2 (fun r4 s3 e5 => ?_)
  replace hT := hT r4 s3 e5
  obtain ⟨h6, hTt, hTf⟩ := hT
  refine g_if_eq (npc := 9) (tgt := 41) dX11_begins_6 rfl (by decide) h6 (fun c7 => ?_) (fun c7 => ?_)
  · replace hT := hTt c7
    refine g_iconst (npc := 42) dX11_begins_41 rfl ?_
    exact g_iret dX11_begins_42 rfl (by decide) ⟨_, rfl, hT⟩
  · replace hT := hTf c7
    refine g_aload_n (npc := 10) dX11_begins_9 rfl rfl rfl ?_
    refine g_iconst (npc := 11) dX11_begins_10 rfl ?_
    refine g_iload_n (npc := 12) dX11_begins_11 rfl rfl rfl ?_
    obtain ⟨Q8, h9, hT⟩ := hT
    refine iv_Mo_108 (npc := 15) dX11_begins_12 rfl rfl (Nat.le_of_ble_eq_true rfl) (by decide) h9 (fun r11 s10 e12 => ?_)
    replace hT := hT r11 s10 e12
    obtain ⟨h13, hTt, hTf⟩ := hT
    refine g_if_eq (npc := 18) (tgt := 41) dX11_begins_15 rfl (by decide) h13 (fun c14 => ?_) (fun c14 => ?_)
    · replace hT := hTt c14
      refine g_iconst (npc := 42) dX11_begins_41 rfl ?_
      exact g_iret dX11_begins_42 rfl (by decide) ⟨_, rfl, hT⟩
    · replace hT := hTf c14
      refine g_aload_n (npc := 19) dX11_begins_18 rfl rfl rfl ?_
      refine g_iconst (npc := 20) dX11_begins_19 rfl ?_
      refine g_iload_n (npc := 21) dX11_begins_20 rfl rfl rfl ?_
      obtain ⟨Q15, h16, hT⟩ := hT
      refine iv_Mo_108 (npc := 24) dX11_begins_21 rfl rfl (Nat.le_of_ble_eq_true rfl) (by decide) h16 (fun r18 s17 e19 => ?_)
      replace hT := hT r18 s17 e19
      obtain ⟨h20, hTt, hTf⟩ := hT
      refine g_if_eq (npc := 27) (tgt := 41) dX11_begins_24 rfl (by decide) h20 (fun c21 => ?_) (fun c21 => ?_)
      · replace hT := hTt c21
        refine g_iconst (npc := 42) dX11_begins_41 rfl ?_
        exact g_iret dX11_begins_42 rfl (by decide) ⟨_, rfl, hT⟩
      · replace hT := hTf c21
        refine g_aload_n (npc := 28) dX11_begins_27 rfl rfl rfl ?_
        refine g_iconst (npc := 29) dX11_begins_28 rfl ?_
        refine g_iload (npc := 31) dX11_begins_29 rfl rfl ?_
        obtain ⟨Q22, h23, hT⟩ := hT
        refine iv_Mo_108 (npc := 34) dX11_begins_31 rfl rfl (Nat.le_of_ble_eq_true rfl) (by decide) h23 (fun r25 s24 e26 => ?_)
        replace hT := hT r25 s24 e26
        obtain ⟨h27, hTt, hTf⟩ := hT
        refine g_if_eq (npc := 37) (tgt := 41) dX11_begins_34 rfl (by decide) h27 (fun c28 => ?_) (fun c28 => ?_)
        · replace hT := hTt c28
          refine g_iconst (npc := 42) dX11_begins_41 rfl ?_
          exact g_iret dX11_begins_42 rfl (by decide) ⟨_, rfl, hT⟩
        · replace hT := hTf c28
          refine g_iconst (npc := 38) dX11_begins_37 rfl ?_
          refine g_goto (npc := 42) dX11_begins_38 (by decide) ?_
          exact g_iret dX11_begins_42 rfl (by decide) ⟨_, rfl, hT⟩
set_option maxRecDepth 20000 in
theorem e_Mo_isNamed {x1 : Int} {s : Sto} {Q : Int → Sto → Prop} (hT : ∃ J26 : Int → Int → Sto → Prop, (∀ v23 v24 s25, J26 v23 v24 s25 → ∃ J28 : Int → Prop, (∀ v27, J28 v27 → (-2147483648 ≤ v23 ∧ v23 < 2147483648) ∧ ((v23 = 0) → Q 0 s25) ∧ ((¬ v23 = 0) → ((-2147483648 ≤ (s25 0 8) ∧ (s25 0 8) < 2147483648) ∧ -2147483648 ≤ (v24 + 1) ∧ (v24 + 1) < 2147483648) ∧ ((¬ (s25 0 8) = (v24 + 1)) → Q 0 s25) ∧ (((s25 0 8) = (v24 + 1)) → (0 ≤ v24 ∧ v24 < 12) ∧ ∃ J37 : Int → Prop, (∀ v36, J37 v36 → ∃ Q40 : Int → Sto → Prop, K_Mo_in ((s25 6 (Int.toNat v24)) - 48) v27 v36 s25 Q40 ∧ ∀ r43 s42, Q40 r43 s42 → (-2147483648 ≤ r43 ∧ r43 < 2147483648) ∧ ((r43 = 0) → Q 0 s42) ∧ ((¬ r43 = 0) → Q 1 s42)) ∧ (-2147483648 ≤ x1 ∧ x1 < 2147483648) ∧ ((¬ x1 = 2) → J37 8) ∧ ((x1 = 2) → J37 6)))) ∧ (-2147483648 ≤ x1 ∧ x1 < 2147483648) ∧ ((¬ x1 = 1) → (-2147483648 ≤ x1 ∧ x1 < 2147483648) ∧ ((¬ x1 = 4) → J28 2) ∧ ((x1 = 4) → J28 4)) ∧ ((x1 = 1) → J28 3)) ∧ (-2147483648 ≤ x1 ∧ x1 < 2147483648) ∧ (x1 = 0 → ∃ Q59 : Int → Sto → Prop, K_Mo_begins 112 97 116 104 s Q59 ∧ ∀ r62 s61, Q59 r62 s61 → J26 r62 4 s61) ∧ (x1 = 1 → ∃ Q64 : Int → Sto → Prop, K_Mo_begins 99 121 99 108 s Q64 ∧ ∀ r67 s66, Q64 r67 s66 → ∃ J72 : Sto → Prop, ∃ J77 : Int → Sto → Prop, (∀ s71, J72 s71 → J77 0 s71) ∧ (∀ v75 s76, J77 v75 s76 → J26 v75 5 s76) ∧ (-2147483648 ≤ r67 ∧ r67 < 2147483648) ∧ ((r67 = 0) → J72 s66) ∧ ((¬ r67 = 0) → ∃ Q84 : Int → Sto → Prop, K_Mo_isAt 4 101 s66 Q84 ∧ ∀ r87 s86, Q84 r87 s86 → (-2147483648 ≤ r87 ∧ r87 < 2147483648) ∧ ((r87 = 0) → J72 s86) ∧ ((¬ r87 = 0) → J77 1 s86))) ∧ (x1 = 2 → ∃ Q93 : Int → Sto → Prop, K_Mo_begins 99 111 109 112 s Q93 ∧ ∀ r96 s95, Q93 r96 s95 → ∃ J107 : Sto → Prop, ∃ J118 : Int → Sto → Prop, (∀ s106, J107 s106 → J118 0 s106) ∧ (∀ v116 s117, J118 v116 s117 → J26 v116 8 s117) ∧ (-2147483648 ≤ r96 ∧ r96 < 2147483648) ∧ ((r96 = 0) → J107 s95) ∧ ((¬ r96 = 0) → ∃ Q125 : Int → Sto → Prop, K_Mo_isAt 4 108 s95 Q125 ∧ ∀ r128 s127, Q125 r128 s127 → (-2147483648 ≤ r128 ∧ r128 < 2147483648) ∧ ((r128 = 0) → J107 s127) ∧ ((¬ r128 = 0) → ∃ Q132 : Int → Sto → Prop, K_Mo_isAt 5 101 s127 Q132 ∧ ∀ r135 s134, Q132 r135 s134 → (-2147483648 ≤ r135 ∧ r135 < 2147483648) ∧ ((r135 = 0) → J107 s134) ∧ ((¬ r135 = 0) → ∃ Q139 : Int → Sto → Prop, K_Mo_isAt 6 116 s134 Q139 ∧ ∀ r142 s141, Q139 r142 s141 → (-2147483648 ≤ r142 ∧ r142 < 2147483648) ∧ ((r142 = 0) → J107 s141) ∧ ((¬ r142 = 0) → ∃ Q146 : Int → Sto → Prop, K_Mo_isAt 7 101 s141 Q146 ∧ ∀ r149 s148, Q146 r149 s148 → (-2147483648 ≤ r149 ∧ r149 < 2147483648) ∧ ((r149 = 0) → J107 s148) ∧ ((¬ r149 = 0) → J118 1 s148)))))) ∧ (x1 = 3 → ∃ Q155 : Int → Sto → Prop, K_Mo_begins 115 116 97 114 s Q155 ∧ ∀ r158 s157, Q155 r158 s157 → J26 r158 4 s157) ∧ ((x1 < 0 ∨ 3 < x1) → ∃ Q160 : Int → Sto → Prop, K_Mo_begins 119 104 101 101 s Q160 ∧ ∀ r163 s162, Q160 r163 s162 → ∃ J168 : Sto → Prop, ∃ J173 : Int → Sto → Prop, (∀ s167, J168 s167 → J173 0 s167) ∧ (∀ v171 s172, J173 v171 s172 → J26 v171 5 s172) ∧ (-2147483648 ≤ r163 ∧ r163 < 2147483648) ∧ ((r163 = 0) → J168 s162) ∧ ((¬ r163 = 0) → ∃ Q180 : Int → Sto → Prop, K_Mo_isAt 4 108 s162 Q180 ∧ ∀ r183 s182, Q180 r183 s182 → (-2147483648 ≤ r183 ∧ r183 < 2147483648) ∧ ((r183 = 0) → J168 s182) ∧ ((¬ r183 = 0) → J173 1 s182)))) : K_Mo_isNamed x1 s Q := by
  refine Sp.body (by decide) (Nat.le_of_ble_eq_true rfl) ?_
  show Go SM M_Mo_isNamed (fI Q) 0 [(0, .ref 0), (1, iV x1)] [] s
  refine g_iload_n (npc := 1) dX11_isNamed_0 rfl rfl rfl ?_
  obtain ⟨J26, hT⟩ := hT
  obtain ⟨hj55, hT⟩ := hT
  have K56 : ∀ (v23 : Int) (v24 : Int) (s25 : Sto), J26 v23 v24 s25 → Go SM M_Mo_isNamed (fI Q) 206 [(0, .ref 0), (1, iV x1), (2, iV v23), (3, iV v24)] [] s25 := by
    intro v23 v24 s25 q57
    replace hT := hj55 v23 v24 s25 q57
    refine g_iload_n (npc := 207) dX11_isNamed_206 rfl rfl rfl ?_
    refine g_iconst (npc := 208) dX11_isNamed_207 rfl ?_
    obtain ⟨J28, hT⟩ := hT
    obtain ⟨hj50, hT⟩ := hT
    have K51 : ∀ (v27 : Int), J28 v27 → Go SM M_Mo_isNamed (fI Q) 225 [(0, .ref 0), (1, iV x1), (2, iV v23), (3, iV v24)] [iV v27] s25 := by
      intro v27 q54
      replace hT := hj50 v27 q54
      refine g_istore (npc := 227) (l' := [(0, .ref 0), (1, iV x1), (2, iV v23), (3, iV v24), (4, iV v27)]) dX11_isNamed_225 rfl (by decide) rfl ?_
      refine g_iload_n (npc := 228) dX11_isNamed_227 rfl rfl rfl ?_
      obtain ⟨h31, hTt, hTf⟩ := hT
      refine g_if_eq (npc := 231) (tgt := 274) dX11_isNamed_228 rfl (by decide) h31 (fun c32 => ?_) (fun c32 => ?_)
      · replace hT := hTt c32
        refine g_iconst (npc := 275) dX11_isNamed_274 rfl ?_
        exact g_iret dX11_isNamed_275 rfl (by decide) ⟨_, rfl, hT⟩
      · replace hT := hTf c32
        refine g_aload_n (npc := 232) dX11_isNamed_231 rfl rfl rfl ?_
        refine gf_Mo_105 (npc := 235) dX11_isNamed_232 rfl rfl ?_
        refine g_iload_n (npc := 236) dX11_isNamed_235 rfl rfl rfl ?_
        refine g_iconst (npc := 237) dX11_isNamed_236 rfl ?_
        refine g_iadd (npc := 238) dX11_isNamed_237 rfl ?_
        obtain ⟨h33, hTt, hTf⟩ := hT
        refine g_icmp_ne (npc := 241) (tgt := 274) dX11_isNamed_238 rfl (by decide) h33 (fun c34 => ?_) (fun c34 => ?_)
        · replace hT := hTt c34
          refine g_iconst (npc := 275) dX11_isNamed_274 rfl ?_
          exact g_iret dX11_isNamed_275 rfl (by decide) ⟨_, rfl, hT⟩
        · replace hT := hTf (Decidable.not_not.mp c34)
          refine g_aload_n (npc := 242) dX11_isNamed_241 rfl rfl rfl ?_
          refine gf_Mo_25 (npc := 245) dX11_isNamed_242 rfl rfl ?_
          refine g_iload_n (npc := 246) dX11_isNamed_245 rfl rfl rfl ?_
          obtain ⟨h35, hT⟩ := hT
          refine g_cald (npc := 247) dX11_isNamed_246 rfl arSM_6 h35 ?_
          refine g_bipush (npc := 249) (x := 48) dX11_isNamed_247 rfl (by decide) ?_
          refine g_isub (npc := 250) dX11_isNamed_249 rfl ?_
          refine g_iload (npc := 252) dX11_isNamed_250 rfl rfl ?_
          refine g_iload_n (npc := 253) dX11_isNamed_252 rfl rfl rfl ?_
          refine g_iconst (npc := 254) dX11_isNamed_253 rfl ?_
          obtain ⟨J37, hT⟩ := hT
          obtain ⟨hj47, hT⟩ := hT
          have K48 : ∀ (v36 : Int), J37 v36 → Go SM M_Mo_isNamed (fI Q) 264 [] [iV v36, iV v27, iV ((s25 6 (Int.toNat v24)) - 48)] s25 := by
            intro v36 q49
            replace hT := hj47 v36 q49
            obtain ⟨Q40, h41, hT⟩ := hT
            refine iv_Mo_97 (npc := 267) dX11_isNamed_264 rfl rfl (Nat.le_of_ble_eq_true rfl) (by decide) h41 (fun r43 s42 e44 => ?_)
            replace hT := hT r43 s42 e44
            obtain ⟨h45, hTt, hTf⟩ := hT
            refine g_if_eq (npc := 270) (tgt := 274) dX11_isNamed_267 rfl (by decide) h45 (fun c46 => ?_) (fun c46 => ?_)
            · replace hT := hTt c46
              refine g_iconst (npc := 275) dX11_isNamed_274 rfl ?_
              exact g_iret dX11_isNamed_275 rfl (by decide) ⟨_, rfl, hT⟩
            · replace hT := hTf c46
              refine g_iconst (npc := 271) dX11_isNamed_270 rfl ?_
              refine g_goto (npc := 275) dX11_isNamed_271 (by decide) ?_
              exact g_iret dX11_isNamed_275 rfl (by decide) ⟨_, rfl, hT⟩
          obtain ⟨h38, hTt, hTf⟩ := hT
          refine g_icmp_ne (npc := 257) (tgt := 262) dX11_isNamed_254 rfl (by decide) ⟨h38, by decide, by decide⟩ (fun c39 => ?_) (fun c39 => ?_)
          · replace hT := hTt c39
            refine g_bipush (npc := 264) (x := 8) dX11_isNamed_262 rfl (by decide) ?_
            refine Go.lsub [] rfl ?_
            exact K48 _ hT
          · replace hT := hTf (Decidable.not_not.mp c39)
            refine g_bipush (npc := 259) (x := 6) dX11_isNamed_257 rfl (by decide) ?_
            refine g_goto (npc := 264) dX11_isNamed_259 (by decide) ?_
            refine Go.lsub [] rfl ?_
            exact K48 _ hT
    obtain ⟨h29, hTt, hTf⟩ := hT
    refine g_icmp_ne (npc := 211) (tgt := 215) dX11_isNamed_208 rfl (by decide) ⟨h29, by decide, by decide⟩ (fun c30 => ?_) (fun c30 => ?_)
    · replace hT := hTt c30
      refine g_iload_n (npc := 216) dX11_isNamed_215 rfl rfl rfl ?_
      refine g_iconst (npc := 217) dX11_isNamed_216 rfl ?_
      obtain ⟨h52, hTt, hTf⟩ := hT
      refine g_icmp_ne (npc := 220) (tgt := 224) dX11_isNamed_217 rfl (by decide) ⟨h52, by decide, by decide⟩ (fun c53 => ?_) (fun c53 => ?_)
      · replace hT := hTt c53
        refine g_iconst (npc := 225) dX11_isNamed_224 rfl ?_
        exact K51 _ hT
      · replace hT := hTf (Decidable.not_not.mp c53)
        refine g_iconst (npc := 221) dX11_isNamed_220 rfl ?_
        refine g_goto (npc := 225) dX11_isNamed_221 (by decide) ?_
        exact K51 _ hT
    · replace hT := hTf (Decidable.not_not.mp c30)
      refine g_iconst (npc := 212) dX11_isNamed_211 rfl ?_
      refine g_goto (npc := 225) dX11_isNamed_212 (by decide) ?_
      exact K51 _ hT
  obtain ⟨h58, hs189, hs190, hs191, hs192, hs193⟩ := hT
  rcases (show x1 = 0 ∨ x1 = 1 ∨ x1 = 2 ∨ x1 = 3 ∨ (x1 < 0 ∨ 3 < x1) from by omega) with c194 | c194 | c194 | c194 | c194
  · replace hT := hs189 c194
    refine g_tabIn (j := 0) (tgt := 32) dX11_isNamed_1 h58 (by omega) (by omega) rfl (by decide) ?_
    refine g_aload_n (npc := 33) dX11_isNamed_32 rfl rfl rfl ?_
    refine g_bipush (npc := 35) (x := 112) dX11_isNamed_33 rfl (by decide) ?_
    refine g_bipush (npc := 37) (x := 97) dX11_isNamed_35 rfl (by decide) ?_
    refine g_bipush (npc := 39) (x := 116) dX11_isNamed_37 rfl (by decide) ?_
    refine g_bipush (npc := 41) (x := 104) dX11_isNamed_39 rfl (by decide) ?_
    obtain ⟨Q59, h60, hT⟩ := hT
    refine iv_Mo_112 (npc := 44) dX11_isNamed_41 rfl rfl (Nat.le_of_ble_eq_true rfl) (by decide) h60 (fun r62 s61 e63 => ?_)
    replace hT := hT r62 s61 e63
    refine g_istore_n (npc := 45) (l' := [(0, .ref 0), (1, iV x1), (2, iV r62)]) dX11_isNamed_44 rfl rfl (by decide) rfl ?_
    refine g_iconst (npc := 46) dX11_isNamed_45 rfl ?_
    refine g_istore_n (npc := 47) (l' := [(0, .ref 0), (1, iV x1), (2, iV r62), (3, iV 4)]) dX11_isNamed_46 rfl rfl (by decide) rfl ?_
    refine g_goto (npc := 206) dX11_isNamed_47 (by decide) ?_
    exact K56 _ _ _ hT
  · replace hT := hs190 c194
    refine g_tabIn (j := 1) (tgt := 50) dX11_isNamed_1 h58 (by omega) (by omega) rfl (by decide) ?_
    refine g_aload_n (npc := 51) dX11_isNamed_50 rfl rfl rfl ?_
    refine g_bipush (npc := 53) (x := 99) dX11_isNamed_51 rfl (by decide) ?_
    refine g_bipush (npc := 55) (x := 121) dX11_isNamed_53 rfl (by decide) ?_
    refine g_bipush (npc := 57) (x := 99) dX11_isNamed_55 rfl (by decide) ?_
    refine g_bipush (npc := 59) (x := 108) dX11_isNamed_57 rfl (by decide) ?_
    obtain ⟨Q64, h65, hT⟩ := hT
    refine iv_Mo_112 (npc := 62) dX11_isNamed_59 rfl rfl (Nat.le_of_ble_eq_true rfl) (by decide) h65 (fun r67 s66 e68 => ?_)
    replace hT := hT r67 s66 e68
    obtain ⟨J72, hT⟩ := hT
    obtain ⟨J77, hT⟩ := hT
    obtain ⟨hj80, hT⟩ := hT
    obtain ⟨hj82, hT⟩ := hT
    have K83 : ∀ (v75 : Int) (s76 : Sto), J77 v75 s76 → Go SM M_Mo_isNamed (fI Q) 80 [(0, .ref 0), (1, iV x1)] [iV v75] s76 := by
      intro v75 s76 q91
      replace hT := hj82 v75 s76 q91
      refine g_istore_n (npc := 81) (l' := [(0, .ref 0), (1, iV x1), (2, iV v75)]) dX11_isNamed_80 rfl rfl (by decide) rfl ?_
      refine g_iconst (npc := 82) dX11_isNamed_81 rfl ?_
      refine g_istore_n (npc := 83) (l' := [(0, .ref 0), (1, iV x1), (2, iV v75), (3, iV 5)]) dX11_isNamed_82 rfl rfl (by decide) rfl ?_
      refine g_goto (npc := 206) dX11_isNamed_83 (by decide) ?_
      exact K56 _ _ _ hT
    have K81 : ∀ (s71 : Sto), J72 s71 → Go SM M_Mo_isNamed (fI Q) 79 [(0, .ref 0), (1, iV x1)] [] s71 := by
      intro s71 q92
      replace hT := hj80 s71 q92
      refine g_iconst (npc := 80) dX11_isNamed_79 rfl ?_
      exact K83 _ _ hT
    obtain ⟨h78, hTt, hTf⟩ := hT
    refine g_if_eq (npc := 65) (tgt := 79) dX11_isNamed_62 rfl (by decide) h78 (fun c79 => ?_) (fun c79 => ?_)
    · replace hT := hTt c79
      exact K81 _ hT
    · replace hT := hTf c79
      refine g_aload_n (npc := 66) dX11_isNamed_65 rfl rfl rfl ?_
      refine g_iconst (npc := 67) dX11_isNamed_66 rfl ?_
      refine g_bipush (npc := 69) (x := 101) dX11_isNamed_67 rfl (by decide) ?_
      obtain ⟨Q84, h85, hT⟩ := hT
      refine iv_Mo_108 (npc := 72) dX11_isNamed_69 rfl rfl (Nat.le_of_ble_eq_true rfl) (by decide) h85 (fun r87 s86 e88 => ?_)
      replace hT := hT r87 s86 e88
      obtain ⟨h89, hTt, hTf⟩ := hT
      refine g_if_eq (npc := 75) (tgt := 79) dX11_isNamed_72 rfl (by decide) h89 (fun c90 => ?_) (fun c90 => ?_)
      · replace hT := hTt c90
        exact K81 _ hT
      · replace hT := hTf c90
        refine g_iconst (npc := 76) dX11_isNamed_75 rfl ?_
        refine g_goto (npc := 80) dX11_isNamed_76 (by decide) ?_
        exact K83 _ _ hT
  · replace hT := hs191 c194
    refine g_tabIn (j := 2) (tgt := 86) dX11_isNamed_1 h58 (by omega) (by omega) rfl (by decide) ?_
    refine g_aload_n (npc := 87) dX11_isNamed_86 rfl rfl rfl ?_
    refine g_bipush (npc := 89) (x := 99) dX11_isNamed_87 rfl (by decide) ?_
    refine g_bipush (npc := 91) (x := 111) dX11_isNamed_89 rfl (by decide) ?_
    refine g_bipush (npc := 93) (x := 109) dX11_isNamed_91 rfl (by decide) ?_
    refine g_bipush (npc := 95) (x := 112) dX11_isNamed_93 rfl (by decide) ?_
    obtain ⟨Q93, h94, hT⟩ := hT
    refine iv_Mo_112 (npc := 98) dX11_isNamed_95 rfl rfl (Nat.le_of_ble_eq_true rfl) (by decide) h94 (fun r96 s95 e97 => ?_)
    replace hT := hT r96 s95 e97
    obtain ⟨J107, hT⟩ := hT
    obtain ⟨J118, hT⟩ := hT
    obtain ⟨hj121, hT⟩ := hT
    obtain ⟨hj123, hT⟩ := hT
    have K124 : ∀ (v116 : Int) (s117 : Sto), J118 v116 s117 → Go SM M_Mo_isNamed (fI Q) 148 [(0, .ref 0), (1, iV x1)] [iV v116] s117 := by
      intro v116 s117 q153
      replace hT := hj123 v116 s117 q153
      refine g_istore_n (npc := 149) (l' := [(0, .ref 0), (1, iV x1), (2, iV v116)]) dX11_isNamed_148 rfl rfl (by decide) rfl ?_
      refine g_bipush (npc := 151) (x := 8) dX11_isNamed_149 rfl (by decide) ?_
      refine g_istore_n (npc := 152) (l' := [(0, .ref 0), (1, iV x1), (2, iV v116), (3, iV 8)]) dX11_isNamed_151 rfl rfl (by decide) rfl ?_
      refine g_goto (npc := 206) dX11_isNamed_152 (by decide) ?_
      exact K56 _ _ _ hT
    have K122 : ∀ (s106 : Sto), J107 s106 → Go SM M_Mo_isNamed (fI Q) 147 [(0, .ref 0), (1, iV x1)] [] s106 := by
      intro s106 q154
      replace hT := hj121 s106 q154
      refine g_iconst (npc := 148) dX11_isNamed_147 rfl ?_
      exact K124 _ _ hT
    obtain ⟨h119, hTt, hTf⟩ := hT
    refine g_if_eq (npc := 101) (tgt := 147) dX11_isNamed_98 rfl (by decide) h119 (fun c120 => ?_) (fun c120 => ?_)
    · replace hT := hTt c120
      exact K122 _ hT
    · replace hT := hTf c120
      refine g_aload_n (npc := 102) dX11_isNamed_101 rfl rfl rfl ?_
      refine g_iconst (npc := 103) dX11_isNamed_102 rfl ?_
      refine g_bipush (npc := 105) (x := 108) dX11_isNamed_103 rfl (by decide) ?_
      obtain ⟨Q125, h126, hT⟩ := hT
      refine iv_Mo_108 (npc := 108) dX11_isNamed_105 rfl rfl (Nat.le_of_ble_eq_true rfl) (by decide) h126 (fun r128 s127 e129 => ?_)
      replace hT := hT r128 s127 e129
      obtain ⟨h130, hTt, hTf⟩ := hT
      refine g_if_eq (npc := 111) (tgt := 147) dX11_isNamed_108 rfl (by decide) h130 (fun c131 => ?_) (fun c131 => ?_)
      · replace hT := hTt c131
        exact K122 _ hT
      · replace hT := hTf c131
        refine g_aload_n (npc := 112) dX11_isNamed_111 rfl rfl rfl ?_
        refine g_iconst (npc := 113) dX11_isNamed_112 rfl ?_
        refine g_bipush (npc := 115) (x := 101) dX11_isNamed_113 rfl (by decide) ?_
        obtain ⟨Q132, h133, hT⟩ := hT
        refine iv_Mo_108 (npc := 118) dX11_isNamed_115 rfl rfl (Nat.le_of_ble_eq_true rfl) (by decide) h133 (fun r135 s134 e136 => ?_)
        replace hT := hT r135 s134 e136
        obtain ⟨h137, hTt, hTf⟩ := hT
        refine g_if_eq (npc := 121) (tgt := 147) dX11_isNamed_118 rfl (by decide) h137 (fun c138 => ?_) (fun c138 => ?_)
        · replace hT := hTt c138
          exact K122 _ hT
        · replace hT := hTf c138
          refine g_aload_n (npc := 122) dX11_isNamed_121 rfl rfl rfl ?_
          refine g_bipush (npc := 124) (x := 6) dX11_isNamed_122 rfl (by decide) ?_
          refine g_bipush (npc := 126) (x := 116) dX11_isNamed_124 rfl (by decide) ?_
          obtain ⟨Q139, h140, hT⟩ := hT
          refine iv_Mo_108 (npc := 129) dX11_isNamed_126 rfl rfl (Nat.le_of_ble_eq_true rfl) (by decide) h140 (fun r142 s141 e143 => ?_)
          replace hT := hT r142 s141 e143
          obtain ⟨h144, hTt, hTf⟩ := hT
          refine g_if_eq (npc := 132) (tgt := 147) dX11_isNamed_129 rfl (by decide) h144 (fun c145 => ?_) (fun c145 => ?_)
          · replace hT := hTt c145
            exact K122 _ hT
          · replace hT := hTf c145
            refine g_aload_n (npc := 133) dX11_isNamed_132 rfl rfl rfl ?_
            refine g_bipush (npc := 135) (x := 7) dX11_isNamed_133 rfl (by decide) ?_
            refine g_bipush (npc := 137) (x := 101) dX11_isNamed_135 rfl (by decide) ?_
            obtain ⟨Q146, h147, hT⟩ := hT
            refine iv_Mo_108 (npc := 140) dX11_isNamed_137 rfl rfl (Nat.le_of_ble_eq_true rfl) (by decide) h147 (fun r149 s148 e150 => ?_)
            replace hT := hT r149 s148 e150
            obtain ⟨h151, hTt, hTf⟩ := hT
            refine g_if_eq (npc := 143) (tgt := 147) dX11_isNamed_140 rfl (by decide) h151 (fun c152 => ?_) (fun c152 => ?_)
            · replace hT := hTt c152
              exact K122 _ hT
            · replace hT := hTf c152
              refine g_iconst (npc := 144) dX11_isNamed_143 rfl ?_
              refine g_goto (npc := 148) dX11_isNamed_144 (by decide) ?_
              exact K124 _ _ hT
  · replace hT := hs192 c194
    refine g_tabIn (j := 3) (tgt := 155) dX11_isNamed_1 h58 (by omega) (by omega) rfl (by decide) ?_
    refine g_aload_n (npc := 156) dX11_isNamed_155 rfl rfl rfl ?_
    refine g_bipush (npc := 158) (x := 115) dX11_isNamed_156 rfl (by decide) ?_
    refine g_bipush (npc := 160) (x := 116) dX11_isNamed_158 rfl (by decide) ?_
    refine g_bipush (npc := 162) (x := 97) dX11_isNamed_160 rfl (by decide) ?_
    refine g_bipush (npc := 164) (x := 114) dX11_isNamed_162 rfl (by decide) ?_
    obtain ⟨Q155, h156, hT⟩ := hT
    refine iv_Mo_112 (npc := 167) dX11_isNamed_164 rfl rfl (Nat.le_of_ble_eq_true rfl) (by decide) h156 (fun r158 s157 e159 => ?_)
    replace hT := hT r158 s157 e159
    refine g_istore_n (npc := 168) (l' := [(0, .ref 0), (1, iV x1), (2, iV r158)]) dX11_isNamed_167 rfl rfl (by decide) rfl ?_
    refine g_iconst (npc := 169) dX11_isNamed_168 rfl ?_
    refine g_istore_n (npc := 170) (l' := [(0, .ref 0), (1, iV x1), (2, iV r158), (3, iV 4)]) dX11_isNamed_169 rfl rfl (by decide) rfl ?_
    refine g_goto (npc := 206) dX11_isNamed_170 (by decide) ?_
    exact K56 _ _ _ hT
  · replace hT := hs193 c194
    refine g_tabOut (tgt := 173) dX11_isNamed_1 h58 c194 (by decide) ?_
    refine g_aload_n (npc := 174) dX11_isNamed_173 rfl rfl rfl ?_
    refine g_bipush (npc := 176) (x := 119) dX11_isNamed_174 rfl (by decide) ?_
    refine g_bipush (npc := 178) (x := 104) dX11_isNamed_176 rfl (by decide) ?_
    refine g_bipush (npc := 180) (x := 101) dX11_isNamed_178 rfl (by decide) ?_
    refine g_bipush (npc := 182) (x := 101) dX11_isNamed_180 rfl (by decide) ?_
    obtain ⟨Q160, h161, hT⟩ := hT
    refine iv_Mo_112 (npc := 185) dX11_isNamed_182 rfl rfl (Nat.le_of_ble_eq_true rfl) (by decide) h161 (fun r163 s162 e164 => ?_)
    replace hT := hT r163 s162 e164
    obtain ⟨J168, hT⟩ := hT
    obtain ⟨J173, hT⟩ := hT
    obtain ⟨hj176, hT⟩ := hT
    obtain ⟨hj178, hT⟩ := hT
    have K179 : ∀ (v171 : Int) (s172 : Sto), J173 v171 s172 → Go SM M_Mo_isNamed (fI Q) 203 [(0, .ref 0), (1, iV x1)] [iV v171] s172 := by
      intro v171 s172 q187
      replace hT := hj178 v171 s172 q187
      refine g_istore_n (npc := 204) (l' := [(0, .ref 0), (1, iV x1), (2, iV v171)]) dX11_isNamed_203 rfl rfl (by decide) rfl ?_
      refine g_iconst (npc := 205) dX11_isNamed_204 rfl ?_
      refine g_istore_n (npc := 206) (l' := [(0, .ref 0), (1, iV x1), (2, iV v171), (3, iV 5)]) dX11_isNamed_205 rfl rfl (by decide) rfl ?_
      exact K56 _ _ _ hT
    have K177 : ∀ (s167 : Sto), J168 s167 → Go SM M_Mo_isNamed (fI Q) 202 [(0, .ref 0), (1, iV x1)] [] s167 := by
      intro s167 q188
      replace hT := hj176 s167 q188
      refine g_iconst (npc := 203) dX11_isNamed_202 rfl ?_
      exact K179 _ _ hT
    obtain ⟨h174, hTt, hTf⟩ := hT
    refine g_if_eq (npc := 188) (tgt := 202) dX11_isNamed_185 rfl (by decide) h174 (fun c175 => ?_) (fun c175 => ?_)
    · replace hT := hTt c175
      exact K177 _ hT
    · replace hT := hTf c175
      refine g_aload_n (npc := 189) dX11_isNamed_188 rfl rfl rfl ?_
      refine g_iconst (npc := 190) dX11_isNamed_189 rfl ?_
      refine g_bipush (npc := 192) (x := 108) dX11_isNamed_190 rfl (by decide) ?_
      obtain ⟨Q180, h181, hT⟩ := hT
      refine iv_Mo_108 (npc := 195) dX11_isNamed_192 rfl rfl (Nat.le_of_ble_eq_true rfl) (by decide) h181 (fun r183 s182 e184 => ?_)
      replace hT := hT r183 s182 e184
      obtain ⟨h185, hTt, hTf⟩ := hT
      refine g_if_eq (npc := 198) (tgt := 202) dX11_isNamed_195 rfl (by decide) h185 (fun c186 => ?_) (fun c186 => ?_)
      · replace hT := hTt c186
        exact K177 _ hT
      · replace hT := hTf c186
        refine g_iconst (npc := 199) dX11_isNamed_198 rfl ?_
        refine g_goto (npc := 203) dX11_isNamed_199 (by decide) ?_
        exact K179 _ _ hT
abbrev H_Mo_readGraph_2 (Q : Int → Sto → Prop) (x1 : Int) (s : Sto) : Prop := Go SM M_Mo_readGraph (fI Q) 2 [(0, .ref 0), (1, iV x1)] [] s
abbrev H_Mo_readGraph_52 (Q : Int → Sto → Prop) (x1 : Int) (x2 : Int) (x3 : Int) (s : Sto) : Prop := Go SM M_Mo_readGraph (fI Q) 52 [(0, .ref 0), (1, iV x1), (2, iV x2), (3, iV x3)] [] s
abbrev H_Mo_readGraph_67 (Q : Int → Sto → Prop) (x1 : Int) (x2 : Int) (x3 : Int) (x4 : Int) (s : Sto) : Prop := Go SM M_Mo_readGraph (fI Q) 67 [(0, .ref 0), (1, iV x1), (2, iV x2), (3, iV x3), (4, iV x4)] [] s
abbrev H_Mo_readGraph_94 (Q : Int → Sto → Prop) (x1 : Int) (x2 : Int) (x3 : Int) (s : Sto) : Prop := Go SM M_Mo_readGraph (fI Q) 94 [(0, .ref 0), (1, iV x1), (2, iV x2), (3, iV x3)] [] s
abbrev H_Mo_readGraph_142 (Q : Int → Sto → Prop) (x1 : Int) (x2 : Int) (x3 : Int) (s : Sto) : Prop := Go SM M_Mo_readGraph (fI Q) 142 [(0, .ref 0), (1, iV x1), (2, iV x2), (3, iV x3)] [] s
set_option maxRecDepth 20000 in
theorem b_Mo_readGraph_2 {Q : Int → Sto → Prop} {x1 : Int} {s : Sto} (hT : ∃ J5 : Sto → Prop, (∀ s4, J5 s4 → (-2147483648 ≤ x1 ∧ x1 < 2147483648) ∧ ((¬ x1 = 5) → (0 ≤ ((s4 0 8) - 1) ∧ ((s4 0 8) - 1) < 12) ∧ ∃ Q11 : Sto → Prop, K_Mo_begin ((s4 6 (Int.toNat ((s4 0 8) - 1))) - 48) s4 Q11 ∧ ∀ s13, Q11 s13 → H_Mo_readGraph_52 Q x1 ((s4 6 (Int.toNat ((s4 0 8) - 1))) - 48) 0 s13) ∧ ((x1 = 5) → Q (-10006) s4)) ∧ (-2147483648 ≤ x1 ∧ x1 < 2147483648) ∧ ((5 ≤ x1) → J5 s) ∧ ((x1 < 5) → ∃ Q18 : Int → Sto → Prop, K_Mo_isNamed x1 s Q18 ∧ ∀ r21 s20, Q18 r21 s20 → (-2147483648 ≤ r21 ∧ r21 < 2147483648) ∧ ((¬ r21 = 0) → J5 s20) ∧ ((r21 = 0) → H_Mo_readGraph_2 Q (x1 + 1) s20))) : H_Mo_readGraph_2 Q x1 s := by
  refine g_iload_n (npc := 3) dX11_readGraph_2 rfl rfl rfl ?_
  refine g_iconst (npc := 4) dX11_readGraph_3 rfl ?_
  obtain ⟨J5, hT⟩ := hT
  obtain ⟨hj16, hT⟩ := hT
  have K17 : ∀ (s4 : Sto), J5 s4 → Go SM M_Mo_readGraph (fI Q) 21 [(0, .ref 0), (1, iV x1)] [] s4 := by
    intro s4 q25
    replace hT := hj16 s4 q25
    refine g_iload_n (npc := 22) dX11_readGraph_21 rfl rfl rfl ?_
    refine g_iconst (npc := 23) dX11_readGraph_22 rfl ?_
    obtain ⟨h8, hTt, hTf⟩ := hT
    refine g_icmp_ne (npc := 26) (tgt := 30) dX11_readGraph_23 rfl (by decide) ⟨h8, by decide, by decide⟩ (fun c9 => ?_) (fun c9 => ?_)
    · replace hT := hTt c9
      refine g_aload_n (npc := 31) dX11_readGraph_30 rfl rfl rfl ?_
      refine gf_Mo_25 (npc := 34) dX11_readGraph_31 rfl rfl ?_
      refine g_aload_n (npc := 35) dX11_readGraph_34 rfl rfl rfl ?_
      refine gf_Mo_105 (npc := 38) dX11_readGraph_35 rfl rfl ?_
      refine g_iconst (npc := 39) dX11_readGraph_38 rfl ?_
      refine g_isub (npc := 40) dX11_readGraph_39 rfl ?_
      obtain ⟨h10, hT⟩ := hT
      refine g_cald (npc := 41) dX11_readGraph_40 rfl arSM_6 h10 ?_
      refine g_bipush (npc := 43) (x := 48) dX11_readGraph_41 rfl (by decide) ?_
      refine g_isub (npc := 44) dX11_readGraph_43 rfl ?_
      refine g_istore_n (npc := 45) (l' := [(0, .ref 0), (1, iV x1), (2, iV ((s4 6 (Int.toNat ((s4 0 8) - 1))) - 48))]) dX11_readGraph_44 rfl rfl (by decide) rfl ?_
      refine g_aload_n (npc := 46) dX11_readGraph_45 rfl rfl rfl ?_
      refine g_iload_n (npc := 47) dX11_readGraph_46 rfl rfl rfl ?_
      obtain ⟨Q11, h12, hT⟩ := hT
      refine iv_Mo_67 (npc := 50) dX11_readGraph_47 rfl rfl (Nat.le_of_ble_eq_true rfl) (by decide) h12 (fun s13 e15 => ?_)
      replace hT := hT s13 e15
      refine g_iconst (npc := 51) dX11_readGraph_50 rfl ?_
      refine g_istore_n (npc := 52) (l' := [(0, .ref 0), (1, iV x1), (2, iV ((s4 6 (Int.toNat ((s4 0 8) - 1))) - 48)), (3, iV 0)]) dX11_readGraph_51 rfl rfl (by decide) rfl ?_
      exact hT
    · replace hT := hTf (Decidable.not_not.mp c9)
      refine g_sipush (npc := 29) (x := (-10006)) dX11_readGraph_26 rfl (by decide) ?_
      exact g_iret dX11_readGraph_29 rfl rfl ⟨_, rfl, hT⟩
  obtain ⟨h6, hTt, hTf⟩ := hT
  refine g_icmp_ge (npc := 7) (tgt := 21) dX11_readGraph_4 rfl (by decide) ⟨h6, by decide, by decide⟩ (fun c7 => ?_) (fun c7 => ?_)
  · replace hT := hTt c7
    exact K17 _ hT
  · replace hT := hTf (Int.not_le.mp c7)
    refine g_aload_n (npc := 8) dX11_readGraph_7 rfl rfl rfl ?_
    refine g_iload_n (npc := 9) dX11_readGraph_8 rfl rfl rfl ?_
    obtain ⟨Q18, h19, hT⟩ := hT
    refine iv_Mo_116 (npc := 12) dX11_readGraph_9 rfl rfl (Nat.le_of_ble_eq_true rfl) (by decide) h19 (fun r21 s20 e22 => ?_)
    replace hT := hT r21 s20 e22
    obtain ⟨h23, hTt, hTf⟩ := hT
    refine g_if_ne (npc := 15) (tgt := 21) dX11_readGraph_12 rfl (by decide) h23 (fun c24 => ?_) (fun c24 => ?_)
    · replace hT := hTt c24
      exact K17 _ hT
    · replace hT := hTf (Decidable.not_not.mp c24)
      refine g_iinc (npc := 18) (y := (x1 + 1)) (l' := [(0, .ref 0), (1, iV (x1 + 1))]) dX11_readGraph_15 rfl (by decide) rfl (by omega) rfl ?_
      refine g_goto (npc := 2) dX11_readGraph_18 (by decide) ?_
      exact hT
set_option maxRecDepth 20000 in
theorem b_Mo_readGraph_52 {Q : Int → Sto → Prop} {x1 : Int} {x2 : Int} {x3 : Int} {s : Sto} (hT : ((-2147483648 ≤ x3 ∧ x3 < 2147483648) ∧ -2147483648 ≤ x2 ∧ x2 < 2147483648) ∧ ((x2 ≤ x3) → H_Mo_readGraph_94 Q x1 x2 1 s) ∧ ((x3 < x2) → (-2147483648 ≤ x1 ∧ x1 < 2147483648) ∧ ((¬ x1 = 2) → H_Mo_readGraph_94 Q x1 x2 1 s) ∧ ((x1 = 2) → H_Mo_readGraph_67 Q x1 x2 x3 (x3 + 1) s))) : H_Mo_readGraph_52 Q x1 x2 x3 s := by
  refine g_iload_n (npc := 53) dX11_readGraph_52 rfl rfl rfl ?_
  refine g_iload_n (npc := 54) dX11_readGraph_53 rfl rfl rfl ?_
  obtain ⟨h26, hTt, hTf⟩ := hT
  refine g_icmp_ge (npc := 57) (tgt := 92) dX11_readGraph_54 rfl (by decide) h26 (fun c27 => ?_) (fun c27 => ?_)
  · replace hT := hTt c27
    refine g_iconst (npc := 93) dX11_readGraph_92 rfl ?_
    refine g_istore_n (npc := 94) (l' := [(0, .ref 0), (1, iV x1), (2, iV x2), (3, iV 1)]) dX11_readGraph_93 rfl rfl (by decide) rfl ?_
    exact hT
  · replace hT := hTf (Int.not_le.mp c27)
    refine g_iload_n (npc := 58) dX11_readGraph_57 rfl rfl rfl ?_
    refine g_iconst (npc := 59) dX11_readGraph_58 rfl ?_
    obtain ⟨h28, hTt, hTf⟩ := hT
    refine g_icmp_ne (npc := 62) (tgt := 92) dX11_readGraph_59 rfl (by decide) ⟨h28, by decide, by decide⟩ (fun c29 => ?_) (fun c29 => ?_)
    · replace hT := hTt c29
      refine g_iconst (npc := 93) dX11_readGraph_92 rfl ?_
      refine g_istore_n (npc := 94) (l' := [(0, .ref 0), (1, iV x1), (2, iV x2), (3, iV 1)]) dX11_readGraph_93 rfl rfl (by decide) rfl ?_
      exact hT
    · replace hT := hTf (Decidable.not_not.mp c29)
      refine g_iload_n (npc := 63) dX11_readGraph_62 rfl rfl rfl ?_
      refine g_iconst (npc := 64) dX11_readGraph_63 rfl ?_
      refine g_iadd (npc := 65) dX11_readGraph_64 rfl ?_
      refine g_istore (npc := 67) (l' := [(0, .ref 0), (1, iV x1), (2, iV x2), (3, iV x3), (4, iV (x3 + 1))]) dX11_readGraph_65 rfl (by decide) rfl ?_
      exact hT
set_option maxRecDepth 20000 in
theorem b_Mo_readGraph_67 {Q : Int → Sto → Prop} {x1 : Int} {x2 : Int} {x3 : Int} {x4 : Int} {s : Sto} (hT : ((-2147483648 ≤ x4 ∧ x4 < 2147483648) ∧ -2147483648 ≤ x2 ∧ x2 < 2147483648) ∧ ((x2 ≤ x4) → H_Mo_readGraph_52 Q x1 x2 (x3 + 1) s) ∧ ((x4 < x2) → ∃ Q64 : Sto → Prop, K_Mo_join x3 x4 s Q64 ∧ ∀ s66, Q64 s66 → H_Mo_readGraph_67 Q x1 x2 x3 (x4 + 1) s66)) : H_Mo_readGraph_67 Q x1 x2 x3 x4 s := by
  refine g_iload (npc := 69) dX11_readGraph_67 rfl rfl ?_
  refine g_iload_n (npc := 70) dX11_readGraph_69 rfl rfl rfl ?_
  obtain ⟨h62, hTt, hTf⟩ := hT
  refine g_icmp_ge (npc := 73) (tgt := 86) dX11_readGraph_70 rfl (by decide) h62 (fun c63 => ?_) (fun c63 => ?_)
  · replace hT := hTt c63
    refine g_iinc (npc := 89) (y := (x3 + 1)) (l' := [(0, .ref 0), (1, iV x1), (2, iV x2), (3, iV (x3 + 1)), (4, iV x4)]) dX11_readGraph_86 rfl (by decide) rfl (by omega) rfl ?_
    refine g_goto (npc := 52) dX11_readGraph_89 (by decide) ?_
    refine Go.lsub [0, 1, 2, 3] rfl ?_
    exact hT
  · replace hT := hTf (Int.not_le.mp c63)
    refine g_aload_n (npc := 74) dX11_readGraph_73 rfl rfl rfl ?_
    refine g_iload_n (npc := 75) dX11_readGraph_74 rfl rfl rfl ?_
    refine g_iload (npc := 77) dX11_readGraph_75 rfl rfl ?_
    obtain ⟨Q64, h65, hT⟩ := hT
    refine iv_Mo_71 (npc := 80) dX11_readGraph_77 rfl rfl (Nat.le_of_ble_eq_true rfl) (by decide) h65 (fun s66 e68 => ?_)
    replace hT := hT s66 e68
    refine g_iinc (npc := 83) (y := (x4 + 1)) (l' := [(0, .ref 0), (1, iV x1), (2, iV x2), (3, iV x3), (4, iV (x4 + 1))]) dX11_readGraph_80 rfl (by decide) rfl (by omega) rfl ?_
    refine g_goto (npc := 67) dX11_readGraph_83 (by decide) ?_
    exact hT
set_option maxRecDepth 20000 in
theorem b_Mo_readGraph_94 {Q : Int → Sto → Prop} {x1 : Int} {x2 : Int} {x3 : Int} {s : Sto} (hT : ∃ J35 : Prop, (J35 → (-2147483648 ≤ x1 ∧ x1 < 2147483648) ∧ ((¬ x1 = 1) → H_Mo_readGraph_142 Q x1 x2 1 s) ∧ ((x1 = 1) → ∃ Q40 : Sto → Prop, K_Mo_join (x2 - 1) 0 s Q40 ∧ ∀ s42, Q40 s42 → H_Mo_readGraph_142 Q x1 x2 1 s42)) ∧ ((-2147483648 ≤ x3 ∧ x3 < 2147483648) ∧ -2147483648 ≤ x2 ∧ x2 < 2147483648) ∧ ((x2 ≤ x3) → J35) ∧ ((x3 < x2) → (-2147483648 ≤ x1 ∧ x1 < 2147483648) ∧ ((x1 = 2) → J35) ∧ ((¬ x1 = 2) → (-2147483648 ≤ x1 ∧ x1 < 2147483648) ∧ ((2 ≤ x1) → ∃ Q51 : Sto → Prop, K_Mo_join 0 x3 s Q51 ∧ ∀ s53, Q51 s53 → H_Mo_readGraph_94 Q x1 x2 (x3 + 1) s53) ∧ ((x1 < 2) → ∃ Q56 : Sto → Prop, K_Mo_join (x3 - 1) x3 s Q56 ∧ ∀ s58, Q56 s58 → H_Mo_readGraph_94 Q x1 x2 (x3 + 1) s58)))) : H_Mo_readGraph_94 Q x1 x2 x3 s := by
  refine g_iload_n (npc := 95) dX11_readGraph_94 rfl rfl rfl ?_
  refine g_iload_n (npc := 96) dX11_readGraph_95 rfl rfl rfl ?_
  obtain ⟨J35, hT⟩ := hT
  obtain ⟨hj45, hT⟩ := hT
  have K46 : J35 → Go SM M_Mo_readGraph (fI Q) 127 [(0, .ref 0), (1, iV x1), (2, iV x2)] [] s := by
    intro  q61
    replace hT := hj45  q61
    refine g_iload_n (npc := 128) dX11_readGraph_127 rfl rfl rfl ?_
    refine g_iconst (npc := 129) dX11_readGraph_128 rfl ?_
    obtain ⟨h38, hTt, hTf⟩ := hT
    refine g_icmp_ne (npc := 132) (tgt := 140) dX11_readGraph_129 rfl (by decide) ⟨h38, by decide, by decide⟩ (fun c39 => ?_) (fun c39 => ?_)
    · replace hT := hTt c39
      refine g_iconst (npc := 141) dX11_readGraph_140 rfl ?_
      refine g_istore_n (npc := 142) (l' := [(0, .ref 0), (1, iV x1), (2, iV x2), (3, iV 1)]) dX11_readGraph_141 rfl rfl (by decide) rfl ?_
      exact hT
    · replace hT := hTf (Decidable.not_not.mp c39)
      refine g_aload_n (npc := 133) dX11_readGraph_132 rfl rfl rfl ?_
      refine g_iload_n (npc := 134) dX11_readGraph_133 rfl rfl rfl ?_
      refine g_iconst (npc := 135) dX11_readGraph_134 rfl ?_
      refine g_isub (npc := 136) dX11_readGraph_135 rfl ?_
      refine g_iconst (npc := 137) dX11_readGraph_136 rfl ?_
      obtain ⟨Q40, h41, hT⟩ := hT
      refine iv_Mo_71 (npc := 140) dX11_readGraph_137 rfl rfl (Nat.le_of_ble_eq_true rfl) (by decide) h41 (fun s42 e44 => ?_)
      replace hT := hT s42 e44
      refine g_iconst (npc := 141) dX11_readGraph_140 rfl ?_
      refine g_istore_n (npc := 142) (l' := [(0, .ref 0), (1, iV x1), (2, iV x2), (3, iV 1)]) dX11_readGraph_141 rfl rfl (by decide) rfl ?_
      exact hT
  obtain ⟨h36, hTt, hTf⟩ := hT
  refine g_icmp_ge (npc := 99) (tgt := 127) dX11_readGraph_96 rfl (by decide) h36 (fun c37 => ?_) (fun c37 => ?_)
  · replace hT := hTt c37
    refine Go.lsub [0, 1, 2] rfl ?_
    exact K46  hT
  · replace hT := hTf (Int.not_le.mp c37)
    refine g_iload_n (npc := 100) dX11_readGraph_99 rfl rfl rfl ?_
    refine g_iconst (npc := 101) dX11_readGraph_100 rfl ?_
    obtain ⟨h47, hTt, hTf⟩ := hT
    refine g_icmp_eq (npc := 104) (tgt := 127) dX11_readGraph_101 rfl (by decide) ⟨h47, by decide, by decide⟩ (fun c48 => ?_) (fun c48 => ?_)
    · replace hT := hTt c48
      refine Go.lsub [0, 1, 2] rfl ?_
      exact K46  hT
    · replace hT := hTf c48
      refine g_aload_n (npc := 105) dX11_readGraph_104 rfl rfl rfl ?_
      refine g_iload_n (npc := 106) dX11_readGraph_105 rfl rfl rfl ?_
      refine g_iconst (npc := 107) dX11_readGraph_106 rfl ?_
      obtain ⟨h49, hTt, hTf⟩ := hT
      refine g_icmp_ge (npc := 110) (tgt := 116) dX11_readGraph_107 rfl (by decide) ⟨h49, by decide, by decide⟩ (fun c50 => ?_) (fun c50 => ?_)
      · replace hT := hTt c50
        refine g_iconst (npc := 117) dX11_readGraph_116 rfl ?_
        refine g_iload_n (npc := 118) dX11_readGraph_117 rfl rfl rfl ?_
        obtain ⟨Q51, h52, hT⟩ := hT
        refine iv_Mo_71 (npc := 121) dX11_readGraph_118 rfl rfl (Nat.le_of_ble_eq_true rfl) (by decide) h52 (fun s53 e55 => ?_)
        replace hT := hT s53 e55
        refine g_iinc (npc := 124) (y := (x3 + 1)) (l' := [(0, .ref 0), (1, iV x1), (2, iV x2), (3, iV (x3 + 1))]) dX11_readGraph_121 rfl (by decide) rfl (by omega) rfl ?_
        refine g_goto (npc := 94) dX11_readGraph_124 (by decide) ?_
        exact hT
      · replace hT := hTf (Int.not_le.mp c50)
        refine g_iload_n (npc := 111) dX11_readGraph_110 rfl rfl rfl ?_
        refine g_iconst (npc := 112) dX11_readGraph_111 rfl ?_
        refine g_isub (npc := 113) dX11_readGraph_112 rfl ?_
        refine g_goto (npc := 117) dX11_readGraph_113 (by decide) ?_
        refine g_iload_n (npc := 118) dX11_readGraph_117 rfl rfl rfl ?_
        obtain ⟨Q56, h57, hT⟩ := hT
        refine iv_Mo_71 (npc := 121) dX11_readGraph_118 rfl rfl (Nat.le_of_ble_eq_true rfl) (by decide) h57 (fun s58 e60 => ?_)
        replace hT := hT s58 e60
        refine g_iinc (npc := 124) (y := (x3 + 1)) (l' := [(0, .ref 0), (1, iV x1), (2, iV x2), (3, iV (x3 + 1))]) dX11_readGraph_121 rfl (by decide) rfl (by omega) rfl ?_
        refine g_goto (npc := 94) dX11_readGraph_124 (by decide) ?_
        exact hT
set_option maxRecDepth 20000 in
theorem b_Mo_readGraph_142 {Q : Int → Sto → Prop} {x1 : Int} {x2 : Int} {x3 : Int} {s : Sto} (hT : ((-2147483648 ≤ x3 ∧ x3 < 2147483648) ∧ -2147483648 ≤ x2 ∧ x2 < 2147483648) ∧ ((x2 ≤ x3) → Q (s 0 1) s) ∧ ((x3 < x2) → (-2147483648 ≤ x1 ∧ x1 < 2147483648) ∧ ((¬ x1 = 4) → Q (s 0 1) s) ∧ ((x1 = 4) → ((-2147483648 ≤ (x3 + 1) ∧ (x3 + 1) < 2147483648) ∧ -2147483648 ≤ x2 ∧ x2 < 2147483648) ∧ ((x2 ≤ (x3 + 1)) → ∃ Q75 : Sto → Prop, K_Mo_join x3 1 s Q75 ∧ ∀ s77, Q75 s77 → H_Mo_readGraph_142 Q x1 x2 (x3 + 1) s77) ∧ (((x3 + 1) < x2) → ∃ Q80 : Sto → Prop, K_Mo_join x3 (x3 + 1) s Q80 ∧ ∀ s82, Q80 s82 → H_Mo_readGraph_142 Q x1 x2 (x3 + 1) s82)))) : H_Mo_readGraph_142 Q x1 x2 x3 s := by
  refine g_iload_n (npc := 143) dX11_readGraph_142 rfl rfl rfl ?_
  refine g_iload_n (npc := 144) dX11_readGraph_143 rfl rfl rfl ?_
  obtain ⟨h69, hTt, hTf⟩ := hT
  refine g_icmp_ge (npc := 147) (tgt := 177) dX11_readGraph_144 rfl (by decide) h69 (fun c70 => ?_) (fun c70 => ?_)
  · replace hT := hTt c70
    refine g_aload_n (npc := 178) dX11_readGraph_177 rfl rfl rfl ?_
    refine gf_Mo_81 (npc := 181) dX11_readGraph_178 rfl rfl ?_
    exact g_iret dX11_readGraph_181 rfl rfl ⟨_, rfl, hT⟩
  · replace hT := hTf (Int.not_le.mp c70)
    refine g_iload_n (npc := 148) dX11_readGraph_147 rfl rfl rfl ?_
    refine g_iconst (npc := 149) dX11_readGraph_148 rfl ?_
    obtain ⟨h71, hTt, hTf⟩ := hT
    refine g_icmp_ne (npc := 152) (tgt := 177) dX11_readGraph_149 rfl (by decide) ⟨h71, by decide, by decide⟩ (fun c72 => ?_) (fun c72 => ?_)
    · replace hT := hTt c72
      refine g_aload_n (npc := 178) dX11_readGraph_177 rfl rfl rfl ?_
      refine gf_Mo_81 (npc := 181) dX11_readGraph_178 rfl rfl ?_
      exact g_iret dX11_readGraph_181 rfl rfl ⟨_, rfl, hT⟩
    · replace hT := hTf (Decidable.not_not.mp c72)
      refine g_aload_n (npc := 153) dX11_readGraph_152 rfl rfl rfl ?_
      refine g_iload_n (npc := 154) dX11_readGraph_153 rfl rfl rfl ?_
      refine g_iload_n (npc := 155) dX11_readGraph_154 rfl rfl rfl ?_
      refine g_iconst (npc := 156) dX11_readGraph_155 rfl ?_
      refine g_iadd (npc := 157) dX11_readGraph_156 rfl ?_
      refine g_iload_n (npc := 158) dX11_readGraph_157 rfl rfl rfl ?_
      obtain ⟨h73, hTt, hTf⟩ := hT
      refine g_icmp_ge (npc := 161) (tgt := 167) dX11_readGraph_158 rfl (by decide) h73 (fun c74 => ?_) (fun c74 => ?_)
      · replace hT := hTt c74
        refine g_iconst (npc := 168) dX11_readGraph_167 rfl ?_
        obtain ⟨Q75, h76, hT⟩ := hT
        refine iv_Mo_71 (npc := 171) dX11_readGraph_168 rfl rfl (Nat.le_of_ble_eq_true rfl) (by decide) h76 (fun s77 e79 => ?_)
        replace hT := hT s77 e79
        refine g_iinc (npc := 174) (y := (x3 + 1)) (l' := [(0, .ref 0), (1, iV x1), (2, iV x2), (3, iV (x3 + 1))]) dX11_readGraph_171 rfl (by decide) rfl (by omega) rfl ?_
        refine g_goto (npc := 142) dX11_readGraph_174 (by decide) ?_
        exact hT
      · replace hT := hTf (Int.not_le.mp c74)
        refine g_iload_n (npc := 162) dX11_readGraph_161 rfl rfl rfl ?_
        refine g_iconst (npc := 163) dX11_readGraph_162 rfl ?_
        refine g_iadd (npc := 164) dX11_readGraph_163 rfl ?_
        refine g_goto (npc := 168) dX11_readGraph_164 (by decide) ?_
        obtain ⟨Q80, h81, hT⟩ := hT
        refine iv_Mo_71 (npc := 171) dX11_readGraph_168 rfl rfl (Nat.le_of_ble_eq_true rfl) (by decide) h81 (fun s82 e84 => ?_)
        replace hT := hT s82 e84
        refine g_iinc (npc := 174) (y := (x3 + 1)) (l' := [(0, .ref 0), (1, iV x1), (2, iV x2), (3, iV (x3 + 1))]) dX11_readGraph_171 rfl (by decide) rfl (by omega) rfl ?_
        refine g_goto (npc := 142) dX11_readGraph_174 (by decide) ?_
        exact hT
set_option maxRecDepth 20000 in
theorem e_Mo_readGraph {s : Sto} {Q : Int → Sto → Prop} (hT : H_Mo_readGraph_2 Q 0 s) : K_Mo_readGraph s Q := by
  refine Sp.body (by decide) (Nat.le_of_ble_eq_true rfl) ?_
  show Go SM M_Mo_readGraph (fI Q) 0 [(0, .ref 0)] [] s
  refine g_iconst (npc := 1) dX11_readGraph_0 rfl ?_
  refine g_istore_n (npc := 2) (l' := [(0, .ref 0), (1, iV 0)]) dX11_readGraph_1 rfl rfl (by decide) rfl ?_
  exact hT
abbrev H_Mo_isConnected_9 (Q : Int → Sto → Prop) (x1 : Int) (x2 : Int) (s : Sto) : Prop := Go SM M_Mo_isConnected (fI Q) 9 [(0, .ref 0), (1, iV x1), (2, iV x2)] [] s
abbrev H_Mo_isConnected_17 (Q : Int → Sto → Prop) (x1 : Int) (x2 : Int) (x3 : Int) (s : Sto) : Prop := Go SM M_Mo_isConnected (fI Q) 17 [(0, .ref 0), (1, iV x1), (2, iV x2), (3, iV x3)] [] s
set_option maxRecDepth 20000 in
theorem b_Mo_isConnected_9 {Q : Int → Sto → Prop} {x1 : Int} {x2 : Int} {s : Sto} (hT : (-2147483648 ≤ x2 ∧ x2 < 2147483648) ∧ ((x2 = 0) → ((-2147483648 ≤ x1 ∧ x1 < 2147483648) ∧ -2147483648 ≤ ((ishl 1 (s 0 0)) - 1) ∧ ((ishl 1 (s 0 0)) - 1) < 2147483648) ∧ ((¬ x1 = ((ishl 1 (s 0 0)) - 1)) → Q 0 s) ∧ ((x1 = ((ishl 1 (s 0 0)) - 1)) → Q 1 s)) ∧ ((¬ x2 = 0) → H_Mo_isConnected_17 Q x1 0 0 s)) : H_Mo_isConnected_9 Q x1 x2 s := by
  refine g_iload_n (npc := 10) dX11_isConnected_9 rfl rfl rfl ?_
  obtain ⟨h1, hTt, hTf⟩ := hT
  refine g_if_eq (npc := 13) (tgt := 127) dX11_isConnected_10 rfl (by decide) h1 (fun c2 => ?_) (fun c2 => ?_)
  · replace hT := hTt c2
    refine g_iload_n (npc := 128) dX11_isConnected_127 rfl rfl rfl ?_
    refine g_iconst (npc := 129) dX11_isConnected_128 rfl ?_
    refine g_aload_n (npc := 130) dX11_isConnected_129 rfl rfl rfl ?_
    refine gf_Mo_77 (npc := 133) dX11_isConnected_130 rfl rfl ?_
    refine g_ishl (npc := 134) dX11_isConnected_133 rfl ?_
    refine g_iconst (npc := 135) dX11_isConnected_134 rfl ?_
    refine g_isub (npc := 136) dX11_isConnected_135 rfl ?_
    obtain ⟨h3, hTt, hTf⟩ := hT
    refine g_icmp_ne (npc := 139) (tgt := 143) dX11_isConnected_136 rfl (by decide) h3 (fun c4 => ?_) (fun c4 => ?_)
    · replace hT := hTt c4
      refine g_iconst (npc := 144) dX11_isConnected_143 rfl ?_
      exact g_iret dX11_isConnected_144 rfl (by decide) ⟨_, rfl, hT⟩
    · replace hT := hTf (Decidable.not_not.mp c4)
      refine g_iconst (npc := 140) dX11_isConnected_139 rfl ?_
      refine g_goto (npc := 144) dX11_isConnected_140 (by decide) ?_
      exact g_iret dX11_isConnected_144 rfl (by decide) ⟨_, rfl, hT⟩
  · replace hT := hTf c2
    refine g_iconst (npc := 14) dX11_isConnected_13 rfl ?_
    refine g_istore_n (npc := 15) (l' := [(0, .ref 0), (1, iV x1), (2, iV 0)]) dX11_isConnected_14 rfl rfl (by decide) rfl ?_
    refine g_iconst (npc := 16) dX11_isConnected_15 rfl ?_
    refine g_istore_n (npc := 17) (l' := [(0, .ref 0), (1, iV x1), (2, iV 0), (3, iV 0)]) dX11_isConnected_16 rfl rfl (by decide) rfl ?_
    exact hT
set_option maxRecDepth 20000 in
theorem b_Mo_isConnected_17 {Q : Int → Sto → Prop} {x1 : Int} {x2 : Int} {x3 : Int} {s : Sto} (hT : ((-2147483648 ≤ x3 ∧ x3 < 2147483648) ∧ -2147483648 ≤ (s 0 1) ∧ (s 0 1) < 2147483648) ∧ (((s 0 1) ≤ x3) → H_Mo_isConnected_9 Q x1 x2 s) ∧ ((x3 < (s 0 1)) → (0 ≤ x3 ∧ x3 < 20) ∧ ∃ J9 : Int → Prop, (∀ v8, J9 v8 → (0 ≤ x3 ∧ x3 < 20) ∧ ∃ J14 : Int → Prop, (∀ v13, J14 v13 → ∃ J17 : Prop, ∃ J19 : Int → Prop, (J17 → J19 1) ∧ (∀ v18, J19 v18 → ∃ J24 : Prop, (J24 → (0 ≤ x3 ∧ x3 < 20) ∧ (0 ≤ x3 ∧ x3 < 20) ∧ H_Mo_isConnected_17 Q (ior x1 (ior (ishl 1 (s 1 (Int.toNat x3))) (ishl 1 (s 2 (Int.toNat x3))))) v18 (x3 + 1) s) ∧ (-2147483648 ≤ v8 ∧ v8 < 2147483648) ∧ ((¬ v8 = 0) → J24) ∧ ((v8 = 0) → (-2147483648 ≤ v13 ∧ v13 < 2147483648) ∧ ((v13 = 0) → H_Mo_isConnected_17 Q (ior x1 0) v18 (x3 + 1) s) ∧ ((¬ v13 = 0) → J24))) ∧ (-2147483648 ≤ x2 ∧ x2 < 2147483648) ∧ ((¬ x2 = 0) → J17) ∧ ((x2 = 0) → ((-2147483648 ≤ v8 ∧ v8 < 2147483648) ∧ -2147483648 ≤ v13 ∧ v13 < 2147483648) ∧ ((v8 = v13) → J19 0) ∧ ((¬ v8 = v13) → J17))) ∧ (-2147483648 ≤ (iand (ishr x1 (s 2 (Int.toNat x3))) 1) ∧ (iand (ishr x1 (s 2 (Int.toNat x3))) 1) < 2147483648) ∧ ((¬ (iand (ishr x1 (s 2 (Int.toNat x3))) 1) = 1) → J14 0) ∧ (((iand (ishr x1 (s 2 (Int.toNat x3))) 1) = 1) → J14 1)) ∧ (-2147483648 ≤ (iand (ishr x1 (s 1 (Int.toNat x3))) 1) ∧ (iand (ishr x1 (s 1 (Int.toNat x3))) 1) < 2147483648) ∧ ((¬ (iand (ishr x1 (s 1 (Int.toNat x3))) 1) = 1) → J9 0) ∧ (((iand (ishr x1 (s 1 (Int.toNat x3))) 1) = 1) → J9 1))) : H_Mo_isConnected_17 Q x1 x2 x3 s := by
  refine g_iload_n (npc := 18) dX11_isConnected_17 rfl rfl rfl ?_
  refine g_aload_n (npc := 19) dX11_isConnected_18 rfl rfl rfl ?_
  refine gf_Mo_81 (npc := 22) dX11_isConnected_19 rfl rfl ?_
  obtain ⟨h5, hTt, hTf⟩ := hT
  refine g_icmp_ge (npc := 25) (tgt := 124) dX11_isConnected_22 rfl (by decide) h5 (fun c6 => ?_) (fun c6 => ?_)
  · replace hT := hTt c6
    refine g_goto (npc := 9) dX11_isConnected_124 (by decide) ?_
    refine Go.lsub [0, 1, 2] rfl ?_
    exact hT
  · replace hT := hTf (Int.not_le.mp c6)
    refine g_iload_n (npc := 26) dX11_isConnected_25 rfl rfl rfl ?_
    refine g_aload_n (npc := 27) dX11_isConnected_26 rfl rfl rfl ?_
    refine gf_Mo_7 (npc := 30) dX11_isConnected_27 rfl rfl ?_
    refine g_iload_n (npc := 31) dX11_isConnected_30 rfl rfl rfl ?_
    obtain ⟨h7, hT⟩ := hT
    refine g_iald (npc := 32) dX11_isConnected_31 rfl arSM_1 h7 ?_
    refine g_ishr (npc := 33) dX11_isConnected_32 rfl ?_
    refine g_iconst (npc := 34) dX11_isConnected_33 rfl ?_
    refine g_iand (npc := 35) dX11_isConnected_34 rfl ?_
    refine g_iconst (npc := 36) dX11_isConnected_35 rfl ?_
    obtain ⟨J9, hT⟩ := hT
    obtain ⟨hj43, hT⟩ := hT
    have K44 : ∀ (v8 : Int), J9 v8 → Go SM M_Mo_isConnected (fI Q) 44 [(0, .ref 0), (1, iV x1), (2, iV x2), (3, iV x3)] [iV v8] s := by
      intro v8 q45
      replace hT := hj43 v8 q45
      refine g_istore (npc := 46) (l' := [(0, .ref 0), (1, iV x1), (2, iV x2), (3, iV x3), (4, iV v8)]) dX11_isConnected_44 rfl (by decide) rfl ?_
      refine g_iload_n (npc := 47) dX11_isConnected_46 rfl rfl rfl ?_
      refine g_aload_n (npc := 48) dX11_isConnected_47 rfl rfl rfl ?_
      refine gf_Mo_13 (npc := 51) dX11_isConnected_48 rfl rfl ?_
      refine g_iload_n (npc := 52) dX11_isConnected_51 rfl rfl rfl ?_
      obtain ⟨h12, hT⟩ := hT
      refine g_iald (npc := 53) dX11_isConnected_52 rfl arSM_2 h12 ?_
      refine g_ishr (npc := 54) dX11_isConnected_53 rfl ?_
      refine g_iconst (npc := 55) dX11_isConnected_54 rfl ?_
      refine g_iand (npc := 56) dX11_isConnected_55 rfl ?_
      refine g_iconst (npc := 57) dX11_isConnected_56 rfl ?_
      obtain ⟨J14, hT⟩ := hT
      obtain ⟨hj40, hT⟩ := hT
      have K41 : ∀ (v13 : Int), J14 v13 → Go SM M_Mo_isConnected (fI Q) 65 [(0, .ref 0), (1, iV x1), (2, iV x2), (3, iV x3), (4, iV v8)] [iV v13] s := by
        intro v13 q42
        replace hT := hj40 v13 q42
        refine g_istore (npc := 67) (l' := [(0, .ref 0), (1, iV x1), (2, iV x2), (3, iV x3), (4, iV v8), (5, iV v13)]) dX11_isConnected_65 rfl (by decide) rfl ?_
        refine g_iload_n (npc := 68) dX11_isConnected_67 rfl rfl rfl ?_
        obtain ⟨J17, hT⟩ := hT
        obtain ⟨J19, hT⟩ := hT
        obtain ⟨hj22, hT⟩ := hT
        obtain ⟨hj34, hT⟩ := hT
        have K35 : ∀ (v18 : Int), J19 v18 → Go SM M_Mo_isConnected (fI Q) 83 [(0, .ref 0), (1, iV x1), (3, iV x3), (4, iV v8), (5, iV v13)] [iV v18] s := by
          intro v18 q38
          replace hT := hj34 v18 q38
          refine g_istore_n (npc := 84) (l' := [(0, .ref 0), (1, iV x1), (2, iV v18), (3, iV x3), (4, iV v8), (5, iV v13)]) dX11_isConnected_83 rfl rfl (by decide) rfl ?_
          refine g_iload_n (npc := 85) dX11_isConnected_84 rfl rfl rfl ?_
          refine g_iload (npc := 87) dX11_isConnected_85 rfl rfl ?_
          obtain ⟨J24, hT⟩ := hT
          obtain ⟨hj29, hT⟩ := hT
          have K30 : J24 → Go SM M_Mo_isConnected (fI Q) 95 [(0, .ref 0), (2, iV v18), (3, iV x3)] [iV x1] s := by
            intro  q33
            replace hT := hj29  q33
            refine g_iconst (npc := 96) dX11_isConnected_95 rfl ?_
            refine g_aload_n (npc := 97) dX11_isConnected_96 rfl rfl rfl ?_
            refine gf_Mo_7 (npc := 100) dX11_isConnected_97 rfl rfl ?_
            refine g_iload_n (npc := 101) dX11_isConnected_100 rfl rfl rfl ?_
            obtain ⟨h27, hT⟩ := hT
            refine g_iald (npc := 102) dX11_isConnected_101 rfl arSM_1 h27 ?_
            refine g_ishl (npc := 103) dX11_isConnected_102 rfl ?_
            refine g_iconst (npc := 104) dX11_isConnected_103 rfl ?_
            refine g_aload_n (npc := 105) dX11_isConnected_104 rfl rfl rfl ?_
            refine gf_Mo_13 (npc := 108) dX11_isConnected_105 rfl rfl ?_
            refine g_iload_n (npc := 109) dX11_isConnected_108 rfl rfl rfl ?_
            obtain ⟨h28, hT⟩ := hT
            refine g_iald (npc := 110) dX11_isConnected_109 rfl arSM_2 h28 ?_
            refine g_ishl (npc := 111) dX11_isConnected_110 rfl ?_
            refine g_ior (npc := 112) dX11_isConnected_111 rfl ?_
            refine g_goto (npc := 116) dX11_isConnected_112 (by decide) ?_
            refine g_ior (npc := 117) dX11_isConnected_116 rfl ?_
            refine g_istore_n (npc := 118) (l' := [(0, .ref 0), (1, iV (ior x1 (ior (ishl 1 (s 1 (Int.toNat x3))) (ishl 1 (s 2 (Int.toNat x3)))))), (2, iV v18), (3, iV x3)]) dX11_isConnected_117 rfl rfl (by decide) rfl ?_
            refine g_iinc (npc := 121) (y := (x3 + 1)) (l' := [(0, .ref 0), (1, iV (ior x1 (ior (ishl 1 (s 1 (Int.toNat x3))) (ishl 1 (s 2 (Int.toNat x3)))))), (2, iV v18), (3, iV (x3 + 1))]) dX11_isConnected_118 rfl (by decide) rfl (by omega) rfl ?_
            refine g_goto (npc := 17) dX11_isConnected_121 (by decide) ?_
            exact hT
          obtain ⟨h25, hTt, hTf⟩ := hT
          refine g_if_ne (npc := 90) (tgt := 95) dX11_isConnected_87 rfl (by decide) h25 (fun c26 => ?_) (fun c26 => ?_)
          · replace hT := hTt c26
            refine Go.lsub [0, 2, 3] rfl ?_
            exact K30  hT
          · replace hT := hTf (Decidable.not_not.mp c26)
            refine g_iload (npc := 92) dX11_isConnected_90 rfl rfl ?_
            obtain ⟨h31, hTt, hTf⟩ := hT
            refine g_if_eq (npc := 95) (tgt := 115) dX11_isConnected_92 rfl (by decide) h31 (fun c32 => ?_) (fun c32 => ?_)
            · replace hT := hTt c32
              refine g_iconst (npc := 116) dX11_isConnected_115 rfl ?_
              refine g_ior (npc := 117) dX11_isConnected_116 rfl ?_
              refine g_istore_n (npc := 118) (l' := [(0, .ref 0), (1, iV (ior x1 0)), (2, iV v18), (3, iV x3), (4, iV v8), (5, iV v13)]) dX11_isConnected_117 rfl rfl (by decide) rfl ?_
              refine g_iinc (npc := 121) (y := (x3 + 1)) (l' := [(0, .ref 0), (1, iV (ior x1 0)), (2, iV v18), (3, iV (x3 + 1)), (4, iV v8), (5, iV v13)]) dX11_isConnected_118 rfl (by decide) rfl (by omega) rfl ?_
              refine g_goto (npc := 17) dX11_isConnected_121 (by decide) ?_
              refine Go.lsub [0, 1, 2, 3] rfl ?_
              exact hT
            · replace hT := hTf c32
              refine Go.lsub [0, 2, 3] rfl ?_
              exact K30  hT
        have K23 : J17 → Go SM M_Mo_isConnected (fI Q) 78 [(0, .ref 0), (1, iV x1), (3, iV x3), (4, iV v8), (5, iV v13)] [] s := by
          intro  q39
          replace hT := hj22  q39
          refine g_iconst (npc := 79) dX11_isConnected_78 rfl ?_
          refine g_goto (npc := 83) dX11_isConnected_79 (by decide) ?_
          exact K35 _ hT
        obtain ⟨h20, hTt, hTf⟩ := hT
        refine g_if_ne (npc := 71) (tgt := 78) dX11_isConnected_68 rfl (by decide) h20 (fun c21 => ?_) (fun c21 => ?_)
        · replace hT := hTt c21
          refine Go.lsub [0, 1, 3, 4, 5] rfl ?_
          exact K23  hT
        · replace hT := hTf (Decidable.not_not.mp c21)
          refine g_iload (npc := 73) dX11_isConnected_71 rfl rfl ?_
          refine g_iload (npc := 75) dX11_isConnected_73 rfl rfl ?_
          obtain ⟨h36, hTt, hTf⟩ := hT
          refine g_icmp_eq (npc := 78) (tgt := 82) dX11_isConnected_75 rfl (by decide) h36 (fun c37 => ?_) (fun c37 => ?_)
          · replace hT := hTt c37
            refine g_iconst (npc := 83) dX11_isConnected_82 rfl ?_
            refine Go.lsub [0, 1, 3, 4, 5] rfl ?_
            exact K35 _ hT
          · replace hT := hTf c37
            refine Go.lsub [0, 1, 3, 4, 5] rfl ?_
            exact K23  hT
      obtain ⟨h15, hTt, hTf⟩ := hT
      refine g_icmp_ne (npc := 60) (tgt := 64) dX11_isConnected_57 rfl (by decide) ⟨h15, by decide, by decide⟩ (fun c16 => ?_) (fun c16 => ?_)
      · replace hT := hTt c16
        refine g_iconst (npc := 65) dX11_isConnected_64 rfl ?_
        exact K41 _ hT
      · replace hT := hTf (Decidable.not_not.mp c16)
        refine g_iconst (npc := 61) dX11_isConnected_60 rfl ?_
        refine g_goto (npc := 65) dX11_isConnected_61 (by decide) ?_
        exact K41 _ hT
    obtain ⟨h10, hTt, hTf⟩ := hT
    refine g_icmp_ne (npc := 39) (tgt := 43) dX11_isConnected_36 rfl (by decide) ⟨h10, by decide, by decide⟩ (fun c11 => ?_) (fun c11 => ?_)
    · replace hT := hTt c11
      refine g_iconst (npc := 44) dX11_isConnected_43 rfl ?_
      exact K44 _ hT
    · replace hT := hTf (Decidable.not_not.mp c11)
      refine g_iconst (npc := 40) dX11_isConnected_39 rfl ?_
      refine g_goto (npc := 44) dX11_isConnected_40 (by decide) ?_
      exact K44 _ hT
set_option maxRecDepth 20000 in
theorem e_Mo_isConnected {s : Sto} {Q : Int → Sto → Prop} (hT : H_Mo_isConnected_9 Q (ishl 1 (s 0 2)) 1 s) : K_Mo_isConnected s Q := by
  refine Sp.body (by decide) (Nat.le_of_ble_eq_true rfl) ?_
  show Go SM M_Mo_isConnected (fI Q) 0 [(0, .ref 0)] [] s
  refine g_iconst (npc := 1) dX11_isConnected_0 rfl ?_
  refine g_aload_n (npc := 2) dX11_isConnected_1 rfl rfl rfl ?_
  refine gf_Mo_84 (npc := 5) dX11_isConnected_2 rfl rfl ?_
  refine g_ishl (npc := 6) dX11_isConnected_5 rfl ?_
  refine g_istore_n (npc := 7) (l' := [(0, .ref 0), (1, iV (ishl 1 (s 0 2)))]) dX11_isConnected_6 rfl rfl (by decide) rfl ?_
  refine g_iconst (npc := 8) dX11_isConnected_7 rfl ?_
  refine g_istore_n (npc := 9) (l' := [(0, .ref 0), (1, iV (ishl 1 (s 0 2))), (2, iV 1)]) dX11_isConnected_8 rfl rfl (by decide) rfl ?_
  exact hT
abbrev H_Mo_sum_4 (Q : Int → Sto → Prop) (x1 : Int) (x2 : Int) (s : Sto) : Prop := Go SM M_Mo_sum (fI Q) 4 [(0, .ref 0), (1, iV x1), (2, iV x2)] [] s
set_option maxRecDepth 20000 in
theorem b_Mo_sum_4 {Q : Int → Sto → Prop} {x1 : Int} {x2 : Int} {s : Sto} (hT : ((-2147483648 ≤ x2 ∧ x2 < 2147483648) ∧ -2147483648 ≤ (s 0 0) ∧ (s 0 0) < 2147483648) ∧ (((s 0 0) ≤ x2) → Q x1 s) ∧ ((x2 < (s 0 0)) → (0 ≤ x2 ∧ x2 < 8) ∧ H_Mo_sum_4 Q (x1 + (s 5 (Int.toNat x2))) (x2 + 1) s)) : H_Mo_sum_4 Q x1 x2 s := by
  refine g_iload_n (npc := 5) dX11_sum_4 rfl rfl rfl ?_
  refine g_aload_n (npc := 6) dX11_sum_5 rfl rfl rfl ?_
  refine gf_Mo_77 (npc := 9) dX11_sum_6 rfl rfl ?_
  obtain ⟨h1, hTt, hTf⟩ := hT
  refine g_icmp_ge (npc := 12) (tgt := 27) dX11_sum_9 rfl (by decide) h1 (fun c2 => ?_) (fun c2 => ?_)
  · replace hT := hTt c2
    refine g_iload_n (npc := 28) dX11_sum_27 rfl rfl rfl ?_
    exact g_iret dX11_sum_28 rfl rfl ⟨_, rfl, hT⟩
  · replace hT := hTf (Int.not_le.mp c2)
    refine g_iload_n (npc := 13) dX11_sum_12 rfl rfl rfl ?_
    refine g_aload_n (npc := 14) dX11_sum_13 rfl rfl rfl ?_
    refine gf_Mo_22 (npc := 17) dX11_sum_14 rfl rfl ?_
    refine g_iload_n (npc := 18) dX11_sum_17 rfl rfl rfl ?_
    obtain ⟨h3, hT⟩ := hT
    refine g_iald (npc := 19) dX11_sum_18 rfl arSM_5 h3 ?_
    refine g_iadd (npc := 20) dX11_sum_19 rfl ?_
    refine g_istore_n (npc := 21) (l' := [(0, .ref 0), (1, iV (x1 + (s 5 (Int.toNat x2)))), (2, iV x2)]) dX11_sum_20 rfl rfl (by decide) rfl ?_
    refine g_iinc (npc := 24) (y := (x2 + 1)) (l' := [(0, .ref 0), (1, iV (x1 + (s 5 (Int.toNat x2)))), (2, iV (x2 + 1))]) dX11_sum_21 rfl (by decide) rfl (by omega) rfl ?_
    refine g_goto (npc := 4) dX11_sum_24 (by decide) ?_
    exact hT
set_option maxRecDepth 20000 in
theorem e_Mo_sum {s : Sto} {Q : Int → Sto → Prop} (hT : H_Mo_sum_4 Q 0 0 s) : K_Mo_sum s Q := by
  refine Sp.body (by decide) (Nat.le_of_ble_eq_true rfl) ?_
  show Go SM M_Mo_sum (fI Q) 0 [(0, .ref 0)] [] s
  refine g_iconst (npc := 1) dX11_sum_0 rfl ?_
  refine g_istore_n (npc := 2) (l' := [(0, .ref 0), (1, iV 0)]) dX11_sum_1 rfl rfl (by decide) rfl ?_
  refine g_iconst (npc := 3) dX11_sum_2 rfl ?_
  refine g_istore_n (npc := 4) (l' := [(0, .ref 0), (1, iV 0), (2, iV 0)]) dX11_sum_3 rfl rfl (by decide) rfl ?_
  exact hT
set_option maxRecDepth 20000 in
theorem e_Mo_inner {s : Sto} {Q : Int → Sto → Prop} (hT : (0 ≤ (s 0 2) ∧ (s 0 2) < 8) ∧ Q ((s 0 1) - (s 4 (Int.toNat (s 0 2)))) s) : K_Mo_inner s Q := by
  refine Sp.body (by decide) (Nat.le_of_ble_eq_true rfl) ?_
  show Go SM M_Mo_inner (fI Q) 0 [(0, .ref 0)] [] s
  refine g_aload_n (npc := 1) dX11_inner_0 rfl rfl rfl ?_
  refine gf_Mo_81 (npc := 4) dX11_inner_1 rfl rfl ?_
  refine g_aload_n (npc := 5) dX11_inner_4 rfl rfl rfl ?_
  refine gf_Mo_19 (npc := 8) dX11_inner_5 rfl rfl ?_
  refine g_aload_n (npc := 9) dX11_inner_8 rfl rfl rfl ?_
  refine gf_Mo_84 (npc := 12) dX11_inner_9 rfl rfl ?_
  obtain ⟨h1, hT⟩ := hT
  refine g_iald (npc := 13) dX11_inner_12 rfl arSM_4 h1 ?_
  refine g_isub (npc := 14) dX11_inner_13 rfl ?_
  exact g_iret dX11_inner_14 rfl rfl ⟨_, rfl, hT⟩
set_option maxRecDepth 20000 in
theorem e_Mo_value {x1 : Int} {s : Sto} {Q : Int → Sto → Prop} (hT : (-2147483648 ≤ x1 ∧ x1 < 2147483648) ∧ (x1 = 0 → Q (s 0 0) s) ∧ (x1 = 1 → Q (s 0 1) s) ∧ (x1 = 2 → Q (s 0 2) s) ∧ (x1 = 3 → ∃ Q2 : Int → Sto → Prop, K_Mo_isConnected s Q2 ∧ ∀ r5 s4, Q2 r5 s4 → (-2147483648 ≤ r5 ∧ r5 < 2147483648) ∧ ((r5 = 0) → Q 0 s4) ∧ ((¬ r5 = 0) → Q 1 s4)) ∧ (x1 = 4 → ∃ Q9 : Int → Sto → Prop, K_Mo_sum s Q9 ∧ ∀ r12 s11, Q9 r12 s11 → Q r12 s11) ∧ (x1 = 5 → Q (s 0 11) s) ∧ (x1 = 6 → ∃ Q14 : Int → Sto → Prop, K_Mo_inner s Q14 ∧ ∀ r17 s16, Q14 r17 s16 → Q r17 s16) ∧ ((x1 < 0 ∨ 6 < x1) → Q (-10002) s)) : K_Mo_value x1 s Q := by
  refine Sp.body (by decide) (Nat.le_of_ble_eq_true rfl) ?_
  show Go SM M_Mo_value (fI Q) 0 [(0, .ref 0), (1, iV x1)] [] s
  refine g_iload_n (npc := 1) dX11_value_0 rfl rfl rfl ?_
  obtain ⟨h1, hs19, hs20, hs21, hs22, hs23, hs24, hs25, hs26⟩ := hT
  rcases (show x1 = 0 ∨ x1 = 1 ∨ x1 = 2 ∨ x1 = 3 ∨ x1 = 4 ∨ x1 = 5 ∨ x1 = 6 ∨ (x1 < 0 ∨ 6 < x1) from by omega) with c27 | c27 | c27 | c27 | c27 | c27 | c27 | c27
  · replace hT := hs19 c27
    refine g_tabIn (j := 0) (tgt := 44) dX11_value_1 h1 (by omega) (by omega) rfl (by decide) ?_
    refine g_aload_n (npc := 45) dX11_value_44 rfl rfl rfl ?_
    refine gf_Mo_77 (npc := 48) dX11_value_45 rfl rfl ?_
    exact g_iret dX11_value_48 rfl rfl ⟨_, rfl, hT⟩
  · replace hT := hs20 c27
    refine g_tabIn (j := 1) (tgt := 49) dX11_value_1 h1 (by omega) (by omega) rfl (by decide) ?_
    refine g_aload_n (npc := 50) dX11_value_49 rfl rfl rfl ?_
    refine gf_Mo_81 (npc := 53) dX11_value_50 rfl rfl ?_
    exact g_iret dX11_value_53 rfl rfl ⟨_, rfl, hT⟩
  · replace hT := hs21 c27
    refine g_tabIn (j := 2) (tgt := 54) dX11_value_1 h1 (by omega) (by omega) rfl (by decide) ?_
    refine g_aload_n (npc := 55) dX11_value_54 rfl rfl rfl ?_
    refine gf_Mo_84 (npc := 58) dX11_value_55 rfl rfl ?_
    exact g_iret dX11_value_58 rfl rfl ⟨_, rfl, hT⟩
  · replace hT := hs22 c27
    refine g_tabIn (j := 3) (tgt := 59) dX11_value_1 h1 (by omega) (by omega) rfl (by decide) ?_
    refine g_aload_n (npc := 60) dX11_value_59 rfl rfl rfl ?_
    obtain ⟨Q2, h3, hT⟩ := hT
    refine iv_Mo_119 (npc := 63) dX11_value_60 rfl rfl (Nat.le_of_ble_eq_true rfl) (by decide) h3 (fun r5 s4 e6 => ?_)
    replace hT := hT r5 s4 e6
    obtain ⟨h7, hTt, hTf⟩ := hT
    refine g_if_eq (npc := 66) (tgt := 70) dX11_value_63 rfl (by decide) h7 (fun c8 => ?_) (fun c8 => ?_)
    · replace hT := hTt c8
      refine g_iconst (npc := 71) dX11_value_70 rfl ?_
      exact g_iret dX11_value_71 rfl rfl ⟨_, rfl, hT⟩
    · replace hT := hTf c8
      refine g_iconst (npc := 67) dX11_value_66 rfl ?_
      refine g_goto (npc := 71) dX11_value_67 (by decide) ?_
      exact g_iret dX11_value_71 rfl rfl ⟨_, rfl, hT⟩
  · replace hT := hs23 c27
    refine g_tabIn (j := 4) (tgt := 72) dX11_value_1 h1 (by omega) (by omega) rfl (by decide) ?_
    refine g_aload_n (npc := 73) dX11_value_72 rfl rfl rfl ?_
    obtain ⟨Q9, h10, hT⟩ := hT
    refine iv_Mo_123 (npc := 76) dX11_value_73 rfl rfl (Nat.le_of_ble_eq_true rfl) (by decide) h10 (fun r12 s11 e13 => ?_)
    replace hT := hT r12 s11 e13
    exact g_iret dX11_value_76 rfl rfl ⟨_, rfl, hT⟩
  · replace hT := hs24 c27
    refine g_tabIn (j := 5) (tgt := 77) dX11_value_1 h1 (by omega) (by omega) rfl (by decide) ?_
    refine g_aload_n (npc := 78) dX11_value_77 rfl rfl rfl ?_
    refine gf_Mo_90 (npc := 81) dX11_value_78 rfl rfl ?_
    exact g_iret dX11_value_81 rfl rfl ⟨_, rfl, hT⟩
  · replace hT := hs25 c27
    refine g_tabIn (j := 6) (tgt := 82) dX11_value_1 h1 (by omega) (by omega) rfl (by decide) ?_
    refine g_aload_n (npc := 83) dX11_value_82 rfl rfl rfl ?_
    obtain ⟨Q14, h15, hT⟩ := hT
    refine iv_Mo_127 (npc := 86) dX11_value_83 rfl rfl (Nat.le_of_ble_eq_true rfl) (by decide) h15 (fun r17 s16 e18 => ?_)
    replace hT := hT r17 s16 e18
    exact g_iret dX11_value_86 rfl rfl ⟨_, rfl, hT⟩
  · replace hT := hs26 c27
    refine g_tabOut (tgt := 87) dX11_value_1 h1 c27 (by decide) ?_
    refine g_sipush (npc := 90) (x := (-10002)) dX11_value_87 rfl (by decide) ?_
    exact g_iret dX11_value_90 rfl rfl ⟨_, rfl, hT⟩
set_option maxRecDepth 20000 in
theorem e_Mo_degree {x1 : Int} {s : Sto} {Q : Int → Sto → Prop} (hT : ∃ Q1 : Int → Sto → Prop, K_Mo_isNode x1 s Q1 ∧ ∀ r4 s3, Q1 r4 s3 → (-2147483648 ≤ r4 ∧ r4 < 2147483648) ∧ ((r4 = 0) → Q (-10001) s3) ∧ ((¬ r4 = 0) → (0 ≤ x1 ∧ x1 < 8) ∧ Q (s3 4 (Int.toNat x1)) s3)) : K_Mo_degree x1 s Q := by
  refine Sp.body (by decide) (Nat.le_of_ble_eq_true rfl) ?_
  show Go SM M_Mo_degree (fI Q) 0 [(0, .ref 0), (1, iV x1)] [] s
  refine g_aload_n (npc := 1) dX11_degree_0 rfl rfl rfl ?_
  refine g_iload_n (npc := 2) dX11_degree_1 rfl rfl rfl ?_
  obtain ⟨Q1, h2, hT⟩ := hT
  refine iv_Mo_101 (npc := 5) dX11_degree_2 rfl rfl (Nat.le_of_ble_eq_true rfl) (by decide) h2 (fun r4 s3 e5 => ?_)
  replace hT := hT r4 s3 e5
  obtain ⟨h6, hTt, hTf⟩ := hT
  refine g_if_eq (npc := 8) (tgt := 17) dX11_degree_5 rfl (by decide) h6 (fun c7 => ?_) (fun c7 => ?_)
  · replace hT := hTt c7
    refine g_sipush (npc := 20) (x := (-10001)) dX11_degree_17 rfl (by decide) ?_
    exact g_iret dX11_degree_20 rfl rfl ⟨_, rfl, hT⟩
  · replace hT := hTf c7
    refine g_aload_n (npc := 9) dX11_degree_8 rfl rfl rfl ?_
    refine gf_Mo_19 (npc := 12) dX11_degree_9 rfl rfl ?_
    refine g_iload_n (npc := 13) dX11_degree_12 rfl rfl rfl ?_
    obtain ⟨h8, hT⟩ := hT
    refine g_iald (npc := 14) dX11_degree_13 rfl arSM_4 h8 ?_
    refine g_goto (npc := 20) dX11_degree_14 (by decide) ?_
    exact g_iret dX11_degree_20 rfl rfl ⟨_, rfl, hT⟩
set_option maxRecDepth 20000 in
theorem e_Mo_edge {x1 : Int} {x2 : Int} {s : Sto} {Q : Int → Sto → Prop} (hT : ∃ Q1 : Int → Sto → Prop, K_Mo_in x1 0 ((s 0 1) - 1) s Q1 ∧ ∀ r4 s3, Q1 r4 s3 → (-2147483648 ≤ r4 ∧ r4 < 2147483648) ∧ ((r4 = 0) → Q (-10001) s3) ∧ ((¬ r4 = 0) → (-2147483648 ≤ x2 ∧ x2 < 2147483648) ∧ ((x2 = 0) → (0 ≤ x1 ∧ x1 < 20) ∧ Q (s3 1 (Int.toNat x1)) s3) ∧ ((¬ x2 = 0) → (0 ≤ x1 ∧ x1 < 20) ∧ Q (s3 2 (Int.toNat x1)) s3))) : K_Mo_edge x1 x2 s Q := by
  refine Sp.body (by decide) (Nat.le_of_ble_eq_true rfl) ?_
  show Go SM M_Mo_edge (fI Q) 0 [(0, .ref 0), (1, iV x1), (2, iV x2)] [] s
  refine g_iload_n (npc := 1) dX11_edge_0 rfl rfl rfl ?_
  refine g_iconst (npc := 2) dX11_edge_1 rfl ?_
  refine g_aload_n (npc := 3) dX11_edge_2 rfl rfl rfl ?_
  refine gf_Mo_81 (npc := 6) dX11_edge_3 rfl rfl ?_
  refine g_iconst (npc := 7) dX11_edge_6 rfl ?_
  refine g_isub (npc := 8) dX11_edge_7 rfl ?_
  obtain ⟨Q1, h2, hT⟩ := hT
  refine iv_Mo_97 (npc := 11) dX11_edge_8 rfl rfl (Nat.le_of_ble_eq_true rfl) (by decide) h2 (fun r4 s3 e5 => ?_)
  replace hT := hT r4 s3 e5
  obtain ⟨h6, hTt, hTf⟩ := hT
  refine g_if_eq (npc := 14) (tgt := 36) dX11_edge_11 rfl (by decide) h6 (fun c7 => ?_) (fun c7 => ?_)
  · replace hT := hTt c7
    refine g_sipush (npc := 39) (x := (-10001)) dX11_edge_36 rfl (by decide) ?_
    exact g_iret dX11_edge_39 rfl rfl ⟨_, rfl, hT⟩
  · replace hT := hTf c7
    refine g_iload_n (npc := 15) dX11_edge_14 rfl rfl rfl ?_
    obtain ⟨h8, hTt, hTf⟩ := hT
    refine g_if_eq (npc := 18) (tgt := 27) dX11_edge_15 rfl (by decide) h8 (fun c9 => ?_) (fun c9 => ?_)
    · replace hT := hTt c9
      refine g_aload_n (npc := 28) dX11_edge_27 rfl rfl rfl ?_
      refine gf_Mo_7 (npc := 31) dX11_edge_28 rfl rfl ?_
      refine g_iload_n (npc := 32) dX11_edge_31 rfl rfl rfl ?_
      obtain ⟨h10, hT⟩ := hT
      refine g_iald (npc := 33) dX11_edge_32 rfl arSM_1 h10 ?_
      refine g_goto (npc := 39) dX11_edge_33 (by decide) ?_
      exact g_iret dX11_edge_39 rfl rfl ⟨_, rfl, hT⟩
    · replace hT := hTf c9
      refine g_aload_n (npc := 19) dX11_edge_18 rfl rfl rfl ?_
      refine gf_Mo_13 (npc := 22) dX11_edge_19 rfl rfl ?_
      refine g_iload_n (npc := 23) dX11_edge_22 rfl rfl rfl ?_
      obtain ⟨h11, hT⟩ := hT
      refine g_iald (npc := 24) dX11_edge_23 rfl arSM_2 h11 ?_
      refine g_goto (npc := 39) dX11_edge_24 (by decide) ?_
      exact g_iret dX11_edge_39 rfl rfl ⟨_, rfl, hT⟩
abbrev H_Mo_undo_23 (Q : Int → Sto → Prop) (x1 : Int) (s : Sto) : Prop := Go SM M_Mo_undo (fI Q) 23 [(0, .ref 0), (1, iV x1)] [] s
set_option maxRecDepth 20000 in
theorem b_Mo_undo_23 {Q : Int → Sto → Prop} {x1 : Int} {s : Sto} (hT : (-2147483648 ≤ x1 ∧ x1 < 2147483648) ∧ ((8 ≤ x1) → Q (s 0 11) s) ∧ ((x1 < 8) → (0 ≤ ((8 * (s 0 11)) + x1) ∧ ((8 * (s 0 11)) + x1) < 96) ∧ (0 ≤ x1 ∧ x1 < 8) ∧ ∀ s8, s8 = up s 5 (Int.toNat x1) (s 8 (Int.toNat ((8 * (s 0 11)) + x1))) → H_Mo_undo_23 Q (x1 + 1) s8)) : H_Mo_undo_23 Q x1 s := by
  refine g_iload_n (npc := 24) dX11_undo_23 rfl rfl rfl ?_
  refine g_bipush (npc := 26) (x := 8) dX11_undo_24 rfl (by decide) ?_
  obtain ⟨h4, hTt, hTf⟩ := hT
  refine g_icmp_ge (npc := 29) (tgt := 55) dX11_undo_26 rfl (by decide) ⟨h4, by decide, by decide⟩ (fun c5 => ?_) (fun c5 => ?_)
  · replace hT := hTt c5
    refine g_aload_n (npc := 56) dX11_undo_55 rfl rfl rfl ?_
    refine gf_Mo_90 (npc := 59) dX11_undo_56 rfl rfl ?_
    exact g_iret dX11_undo_59 rfl rfl ⟨_, rfl, hT⟩
  · replace hT := hTf (Int.not_le.mp c5)
    refine g_aload_n (npc := 30) dX11_undo_29 rfl rfl rfl ?_
    refine gf_Mo_22 (npc := 33) dX11_undo_30 rfl rfl ?_
    refine g_iload_n (npc := 34) dX11_undo_33 rfl rfl rfl ?_
    refine g_aload_n (npc := 35) dX11_undo_34 rfl rfl rfl ?_
    refine gf_Mo_32 (npc := 38) dX11_undo_35 rfl rfl ?_
    refine g_bipush (npc := 40) (x := 8) dX11_undo_38 rfl (by decide) ?_
    refine g_aload_n (npc := 41) dX11_undo_40 rfl rfl rfl ?_
    refine gf_Mo_90 (npc := 44) dX11_undo_41 rfl rfl ?_
    refine g_imul (npc := 45) dX11_undo_44 rfl ?_
    refine g_iload_n (npc := 46) dX11_undo_45 rfl rfl rfl ?_
    refine g_iadd (npc := 47) dX11_undo_46 rfl ?_
    obtain ⟨h6, hT⟩ := hT
    refine g_iald (npc := 48) dX11_undo_47 rfl arSM_8 h6 ?_
    obtain ⟨h7, hT⟩ := hT
    replace hT := hT _ rfl
    refine g_iast (npc := 49) dX11_undo_48 rfl arSM_5 h7  ?_
    refine g_iinc (npc := 52) (y := (x1 + 1)) (l' := [(0, .ref 0), (1, iV (x1 + 1))]) dX11_undo_49 rfl (by decide) rfl (by omega) rfl ?_
    refine g_goto (npc := 23) dX11_undo_52 (by decide) ?_
    exact hT
set_option maxRecDepth 20000 in
theorem e_Mo_undo {s : Sto} {Q : Int → Sto → Prop} (hT : (-2147483648 ≤ (s 0 11) ∧ (s 0 11) < 2147483648) ∧ ((¬ (s 0 11) = 0) → ∀ s3, s3 = up s 0 11 ((s 0 11) - 1) → H_Mo_undo_23 Q 0 s3) ∧ (((s 0 11) = 0) → Q (-10007) s)) : K_Mo_undo s Q := by
  refine Sp.body (by decide) (Nat.le_of_ble_eq_true rfl) ?_
  show Go SM M_Mo_undo (fI Q) 0 [(0, .ref 0)] [] s
  refine g_aload_n (npc := 1) dX11_undo_0 rfl rfl rfl ?_
  refine gf_Mo_90 (npc := 4) dX11_undo_1 rfl rfl ?_
  obtain ⟨h1, hTt, hTf⟩ := hT
  refine g_if_ne (npc := 7) (tgt := 11) dX11_undo_4 rfl (by decide) h1 (fun c2 => ?_) (fun c2 => ?_)
  · replace hT := hTt c2
    refine g_aload_n (npc := 12) dX11_undo_11 rfl rfl rfl ?_
    refine g_dup (npc := 13) dX11_undo_12 rfl rfl ?_
    refine gf_Mo_90 (npc := 16) dX11_undo_13 rfl rfl ?_
    refine g_iconst (npc := 17) dX11_undo_16 rfl ?_
    refine g_isub (npc := 18) dX11_undo_17 rfl ?_
    replace hT := hT _ rfl
    refine pf_Mo_90 (npc := 21) dX11_undo_18 rfl rfl ?_
    refine g_iconst (npc := 22) dX11_undo_21 rfl ?_
    refine g_istore_n (npc := 23) (l' := [(0, .ref 0), (1, iV 0)]) dX11_undo_22 rfl rfl (by decide) rfl ?_
    exact hT
  · replace hT := hTf (Decidable.not_not.mp c2)
    refine g_sipush (npc := 10) (x := (-10007)) dX11_undo_7 rfl (by decide) ?_
    exact g_iret dX11_undo_10 rfl rfl ⟨_, rfl, hT⟩
set_option maxRecDepth 20000 in
theorem e_Mo_hasChips {x1 : Int} {s : Sto} {Q : Int → Sto → Prop} (hT : ∃ Q1 : Int → Sto → Prop, K_Mo_isNode x1 s Q1 ∧ ∀ r4 s3, Q1 r4 s3 → (-2147483648 ≤ r4 ∧ r4 < 2147483648) ∧ ((r4 = 0) → Q 0 s3) ∧ ((¬ r4 = 0) → ((-2147483648 ≤ x1 ∧ x1 < 2147483648) ∧ -2147483648 ≤ (s3 0 2) ∧ (s3 0 2) < 2147483648) ∧ ((x1 = (s3 0 2)) → Q 0 s3) ∧ ((¬ x1 = (s3 0 2)) → Q 1 s3))) : K_Mo_hasChips x1 s Q := by
  refine Sp.body (by decide) (Nat.le_of_ble_eq_true rfl) ?_
  show Go SM M_Mo_hasChips (fI Q) 0 [(0, .ref 0), (1, iV x1)] [] s
  refine g_aload_n (npc := 1) dX11_hasChips_0 rfl rfl rfl ?_
  refine g_iload_n (npc := 2) dX11_hasChips_1 rfl rfl rfl ?_
  obtain ⟨Q1, h2, hT⟩ := hT
  refine iv_Mo_101 (npc := 5) dX11_hasChips_2 rfl rfl (Nat.le_of_ble_eq_true rfl) (by decide) h2 (fun r4 s3 e5 => ?_)
  replace hT := hT r4 s3 e5
  obtain ⟨h6, hTt, hTf⟩ := hT
  refine g_if_eq (npc := 8) (tgt := 20) dX11_hasChips_5 rfl (by decide) h6 (fun c7 => ?_) (fun c7 => ?_)
  · replace hT := hTt c7
    refine g_iconst (npc := 21) dX11_hasChips_20 rfl ?_
    exact g_iret dX11_hasChips_21 rfl (by decide) ⟨_, rfl, hT⟩
  · replace hT := hTf c7
    refine g_iload_n (npc := 9) dX11_hasChips_8 rfl rfl rfl ?_
    refine g_aload_n (npc := 10) dX11_hasChips_9 rfl rfl rfl ?_
    refine gf_Mo_84 (npc := 13) dX11_hasChips_10 rfl rfl ?_
    obtain ⟨h8, hTt, hTf⟩ := hT
    refine g_icmp_eq (npc := 16) (tgt := 20) dX11_hasChips_13 rfl (by decide) h8 (fun c9 => ?_) (fun c9 => ?_)
    · replace hT := hTt c9
      refine g_iconst (npc := 21) dX11_hasChips_20 rfl ?_
      exact g_iret dX11_hasChips_21 rfl (by decide) ⟨_, rfl, hT⟩
    · replace hT := hTf c9
      refine g_iconst (npc := 17) dX11_hasChips_16 rfl ?_
      refine g_goto (npc := 21) dX11_hasChips_17 (by decide) ?_
      exact g_iret dX11_hasChips_21 rfl (by decide) ⟨_, rfl, hT⟩
abbrev H_Mo_keepState_21 (Q : Sto → Prop) (x1 : Int) (s : Sto) : Prop := Go SM M_Mo_keepState (fV0 Q) 21 [(0, .ref 0), (1, iV x1)] [] s
abbrev H_Mo_keepState_55 (Q : Sto → Prop) (x1 : Int) (s : Sto) : Prop := Go SM M_Mo_keepState (fV0 Q) 55 [(0, .ref 0), (1, iV x1)] [] s
set_option maxRecDepth 20000 in
theorem b_Mo_keepState_21 {Q : Sto → Prop} {x1 : Int} {s : Sto} (hT : ((-2147483648 ≤ x1 ∧ x1 < 2147483648) ∧ -2147483648 ≤ (8 * (s 0 11)) ∧ (8 * (s 0 11)) < 2147483648) ∧ (((8 * (s 0 11)) ≤ x1) → H_Mo_keepState_55 Q 0 s) ∧ ((x1 < (8 * (s 0 11))) → (0 ≤ (x1 + 8) ∧ (x1 + 8) < 96) ∧ (0 ≤ x1 ∧ x1 < 96) ∧ ∀ s14, s14 = up s 8 (Int.toNat x1) (s 8 (Int.toNat (x1 + 8))) → H_Mo_keepState_21 Q (x1 + 1) s14)) : H_Mo_keepState_21 Q x1 s := by
  refine g_iload_n (npc := 22) dX11_keepState_21 rfl rfl rfl ?_
  refine g_bipush (npc := 24) (x := 8) dX11_keepState_22 rfl (by decide) ?_
  refine g_aload_n (npc := 25) dX11_keepState_24 rfl rfl rfl ?_
  refine gf_Mo_90 (npc := 28) dX11_keepState_25 rfl rfl ?_
  refine g_imul (npc := 29) dX11_keepState_28 rfl ?_
  obtain ⟨h10, hTt, hTf⟩ := hT
  refine g_icmp_ge (npc := 32) (tgt := 53) dX11_keepState_29 rfl (by decide) h10 (fun c11 => ?_) (fun c11 => ?_)
  · replace hT := hTt c11
    refine g_iconst (npc := 54) dX11_keepState_53 rfl ?_
    refine g_istore_n (npc := 55) (l' := [(0, .ref 0), (1, iV 0)]) dX11_keepState_54 rfl rfl (by decide) rfl ?_
    exact hT
  · replace hT := hTf (Int.not_le.mp c11)
    refine g_aload_n (npc := 33) dX11_keepState_32 rfl rfl rfl ?_
    refine gf_Mo_32 (npc := 36) dX11_keepState_33 rfl rfl ?_
    refine g_iload_n (npc := 37) dX11_keepState_36 rfl rfl rfl ?_
    refine g_aload_n (npc := 38) dX11_keepState_37 rfl rfl rfl ?_
    refine gf_Mo_32 (npc := 41) dX11_keepState_38 rfl rfl ?_
    refine g_iload_n (npc := 42) dX11_keepState_41 rfl rfl rfl ?_
    refine g_bipush (npc := 44) (x := 8) dX11_keepState_42 rfl (by decide) ?_
    refine g_iadd (npc := 45) dX11_keepState_44 rfl ?_
    obtain ⟨h12, hT⟩ := hT
    refine g_iald (npc := 46) dX11_keepState_45 rfl arSM_8 h12 ?_
    obtain ⟨h13, hT⟩ := hT
    replace hT := hT _ rfl
    refine g_iast (npc := 47) dX11_keepState_46 rfl arSM_8 h13  ?_
    refine g_iinc (npc := 50) (y := (x1 + 1)) (l' := [(0, .ref 0), (1, iV (x1 + 1))]) dX11_keepState_47 rfl (by decide) rfl (by omega) rfl ?_
    refine g_goto (npc := 21) dX11_keepState_50 (by decide) ?_
    exact hT
set_option maxRecDepth 20000 in
theorem b_Mo_keepState_55 {Q : Sto → Prop} {x1 : Int} {s : Sto} (hT : (-2147483648 ≤ x1 ∧ x1 < 2147483648) ∧ ((8 ≤ x1) → ∀ s6, s6 = up s 0 11 ((s 0 11) + 1) → Q s6) ∧ ((x1 < 8) → (0 ≤ x1 ∧ x1 < 8) ∧ (0 ≤ ((8 * (s 0 11)) + x1) ∧ ((8 * (s 0 11)) + x1) < 96) ∧ ∀ s9, s9 = up s 8 (Int.toNat ((8 * (s 0 11)) + x1)) (s 5 (Int.toNat x1)) → H_Mo_keepState_55 Q (x1 + 1) s9)) : H_Mo_keepState_55 Q x1 s := by
  refine g_iload_n (npc := 56) dX11_keepState_55 rfl rfl rfl ?_
  refine g_bipush (npc := 58) (x := 8) dX11_keepState_56 rfl (by decide) ?_
  obtain ⟨h4, hTt, hTf⟩ := hT
  refine g_icmp_ge (npc := 61) (tgt := 87) dX11_keepState_58 rfl (by decide) ⟨h4, by decide, by decide⟩ (fun c5 => ?_) (fun c5 => ?_)
  · replace hT := hTt c5
    refine g_aload_n (npc := 88) dX11_keepState_87 rfl rfl rfl ?_
    refine g_dup (npc := 89) dX11_keepState_88 rfl rfl ?_
    refine gf_Mo_90 (npc := 92) dX11_keepState_89 rfl rfl ?_
    refine g_iconst (npc := 93) dX11_keepState_92 rfl ?_
    refine g_iadd (npc := 94) dX11_keepState_93 rfl ?_
    replace hT := hT _ rfl
    refine pf_Mo_90 (npc := 97) dX11_keepState_94 rfl rfl ?_
    exact g_ret dX11_keepState_97 rfl ⟨rfl, hT⟩
  · replace hT := hTf (Int.not_le.mp c5)
    refine g_aload_n (npc := 62) dX11_keepState_61 rfl rfl rfl ?_
    refine gf_Mo_32 (npc := 65) dX11_keepState_62 rfl rfl ?_
    refine g_bipush (npc := 67) (x := 8) dX11_keepState_65 rfl (by decide) ?_
    refine g_aload_n (npc := 68) dX11_keepState_67 rfl rfl rfl ?_
    refine gf_Mo_90 (npc := 71) dX11_keepState_68 rfl rfl ?_
    refine g_imul (npc := 72) dX11_keepState_71 rfl ?_
    refine g_iload_n (npc := 73) dX11_keepState_72 rfl rfl rfl ?_
    refine g_iadd (npc := 74) dX11_keepState_73 rfl ?_
    refine g_aload_n (npc := 75) dX11_keepState_74 rfl rfl rfl ?_
    refine gf_Mo_22 (npc := 78) dX11_keepState_75 rfl rfl ?_
    refine g_iload_n (npc := 79) dX11_keepState_78 rfl rfl rfl ?_
    obtain ⟨h7, hT⟩ := hT
    refine g_iald (npc := 80) dX11_keepState_79 rfl arSM_5 h7 ?_
    obtain ⟨h8, hT⟩ := hT
    replace hT := hT _ rfl
    refine g_iast (npc := 81) dX11_keepState_80 rfl arSM_8 h8  ?_
    refine g_iinc (npc := 84) (y := (x1 + 1)) (l' := [(0, .ref 0), (1, iV (x1 + 1))]) dX11_keepState_81 rfl (by decide) rfl (by omega) rfl ?_
    refine g_goto (npc := 55) dX11_keepState_84 (by decide) ?_
    exact hT
set_option maxRecDepth 20000 in
theorem e_Mo_keepState {s : Sto} {Q : Sto → Prop} (hT : (-2147483648 ≤ (s 0 11) ∧ (s 0 11) < 2147483648) ∧ ((¬ (s 0 11) = 12) → H_Mo_keepState_55 Q 0 s) ∧ (((s 0 11) = 12) → ∀ s3, s3 = up s 0 11 ((s 0 11) - 1) → H_Mo_keepState_21 Q 0 s3)) : K_Mo_keepState s Q := by
  refine Sp.body (by decide) (Nat.le_of_ble_eq_true rfl) ?_
  show Go SM M_Mo_keepState (fV0 Q) 0 [(0, .ref 0)] [] s
  refine g_aload_n (npc := 1) dX11_keepState_0 rfl rfl rfl ?_
  refine gf_Mo_90 (npc := 4) dX11_keepState_1 rfl rfl ?_
  refine g_bipush (npc := 6) (x := 12) dX11_keepState_4 rfl (by decide) ?_
  obtain ⟨h1, hTt, hTf⟩ := hT
  refine g_icmp_ne (npc := 9) (tgt := 53) dX11_keepState_6 rfl (by decide) ⟨h1, by decide, by decide⟩ (fun c2 => ?_) (fun c2 => ?_)
  · replace hT := hTt c2
    refine g_iconst (npc := 54) dX11_keepState_53 rfl ?_
    refine g_istore_n (npc := 55) (l' := [(0, .ref 0), (1, iV 0)]) dX11_keepState_54 rfl rfl (by decide) rfl ?_
    exact hT
  · replace hT := hTf (Decidable.not_not.mp c2)
    refine g_aload_n (npc := 10) dX11_keepState_9 rfl rfl rfl ?_
    refine g_dup (npc := 11) dX11_keepState_10 rfl rfl ?_
    refine gf_Mo_90 (npc := 14) dX11_keepState_11 rfl rfl ?_
    refine g_iconst (npc := 15) dX11_keepState_14 rfl ?_
    refine g_isub (npc := 16) dX11_keepState_15 rfl ?_
    replace hT := hT _ rfl
    refine pf_Mo_90 (npc := 19) dX11_keepState_16 rfl rfl ?_
    refine g_iconst (npc := 20) dX11_keepState_19 rfl ?_
    refine g_istore_n (npc := 21) (l' := [(0, .ref 0), (1, iV 0)]) dX11_keepState_20 rfl rfl (by decide) rfl ?_
    exact hT
set_option maxRecDepth 20000 in
theorem e_Mo_setChips {x1 : Int} {x2 : Int} {s : Sto} {Q : Int → Sto → Prop} (hT : ∃ Q1 : Int → Sto → Prop, K_Mo_hasChips x1 s Q1 ∧ ∀ r4 s3, Q1 r4 s3 → (-2147483648 ≤ r4 ∧ r4 < 2147483648) ∧ ((¬ r4 = 0) → ∃ Q8 : Int → Sto → Prop, K_Mo_in x2 0 1000 s3 Q8 ∧ ∀ r11 s10, Q8 r11 s10 → (-2147483648 ≤ r11 ∧ r11 < 2147483648) ∧ ((¬ r11 = 0) → ∃ Q15 : Sto → Prop, K_Mo_keepState s10 Q15 ∧ ∀ s17, Q15 s17 → (0 ≤ x1 ∧ x1 < 8) ∧ (0 ≤ x1 ∧ x1 < 8) ∧ ∀ s22, s22 = up s17 5 (Int.toNat x1) x2 → Q (s17 5 (Int.toNat x1)) s22) ∧ ((r11 = 0) → Q (-10002) s10)) ∧ ((r4 = 0) → Q (-10001) s3)) : K_Mo_setChips x1 x2 s Q := by
  refine Sp.body (by decide) (Nat.le_of_ble_eq_true rfl) ?_
  show Go SM M_Mo_setChips (fI Q) 0 [(0, .ref 0), (1, iV x1), (2, iV x2)] [] s
  refine g_aload_n (npc := 1) dX11_setChips_0 rfl rfl rfl ?_
  refine g_iload_n (npc := 2) dX11_setChips_1 rfl rfl rfl ?_
  obtain ⟨Q1, h2, hT⟩ := hT
  refine iv_Mo_130 (npc := 5) dX11_setChips_2 rfl rfl (Nat.le_of_ble_eq_true rfl) (by decide) h2 (fun r4 s3 e5 => ?_)
  replace hT := hT r4 s3 e5
  obtain ⟨h6, hTt, hTf⟩ := hT
  refine g_if_ne (npc := 8) (tgt := 12) dX11_setChips_5 rfl (by decide) h6 (fun c7 => ?_) (fun c7 => ?_)
  · replace hT := hTt c7
    refine g_iload_n (npc := 13) dX11_setChips_12 rfl rfl rfl ?_
    refine g_iconst (npc := 14) dX11_setChips_13 rfl ?_
    refine g_sipush (npc := 17) (x := 1000) dX11_setChips_14 rfl (by decide) ?_
    obtain ⟨Q8, h9, hT⟩ := hT
    refine iv_Mo_97 (npc := 20) dX11_setChips_17 rfl rfl (Nat.le_of_ble_eq_true rfl) (by decide) h9 (fun r11 s10 e12 => ?_)
    replace hT := hT r11 s10 e12
    obtain ⟨h13, hTt, hTf⟩ := hT
    refine g_if_ne (npc := 23) (tgt := 27) dX11_setChips_20 rfl (by decide) h13 (fun c14 => ?_) (fun c14 => ?_)
    · replace hT := hTt c14
      refine g_aload_n (npc := 28) dX11_setChips_27 rfl rfl rfl ?_
      obtain ⟨Q15, h16, hT⟩ := hT
      refine iv_Mo_133 (npc := 31) dX11_setChips_28 rfl rfl (Nat.le_of_ble_eq_true rfl) (by decide) h16 (fun s17 e19 => ?_)
      replace hT := hT s17 e19
      refine g_aload_n (npc := 32) dX11_setChips_31 rfl rfl rfl ?_
      refine gf_Mo_22 (npc := 35) dX11_setChips_32 rfl rfl ?_
      refine g_iload_n (npc := 36) dX11_setChips_35 rfl rfl rfl ?_
      obtain ⟨h20, hT⟩ := hT
      refine g_iald (npc := 37) dX11_setChips_36 rfl arSM_5 h20 ?_
      refine g_istore_n (npc := 38) (l' := [(0, .ref 0), (1, iV x1), (2, iV x2), (3, iV (s17 5 (Int.toNat x1)))]) dX11_setChips_37 rfl rfl (by decide) rfl ?_
      refine g_aload_n (npc := 39) dX11_setChips_38 rfl rfl rfl ?_
      refine gf_Mo_22 (npc := 42) dX11_setChips_39 rfl rfl ?_
      refine g_iload_n (npc := 43) dX11_setChips_42 rfl rfl rfl ?_
      refine g_iload_n (npc := 44) dX11_setChips_43 rfl rfl rfl ?_
      obtain ⟨h21, hT⟩ := hT
      replace hT := hT _ rfl
      refine g_iast (npc := 45) dX11_setChips_44 rfl arSM_5 h21  ?_
      refine g_iload_n (npc := 46) dX11_setChips_45 rfl rfl rfl ?_
      exact g_iret dX11_setChips_46 rfl rfl ⟨_, rfl, hT⟩
    · replace hT := hTf (Decidable.not_not.mp c14)
      refine g_sipush (npc := 26) (x := (-10002)) dX11_setChips_23 rfl (by decide) ?_
      exact g_iret dX11_setChips_26 rfl rfl ⟨_, rfl, hT⟩
  · replace hT := hTf (Decidable.not_not.mp c7)
    refine g_sipush (npc := 11) (x := (-10001)) dX11_setChips_8 rfl (by decide) ?_
    exact g_iret dX11_setChips_11 rfl rfl ⟨_, rfl, hT⟩
set_option maxRecDepth 20000 in
theorem e_Mo_chips {x1 : Int} {s : Sto} {Q : Int → Sto → Prop} (hT : ∃ Q1 : Int → Sto → Prop, K_Mo_hasChips x1 s Q1 ∧ ∀ r4 s3, Q1 r4 s3 → (-2147483648 ≤ r4 ∧ r4 < 2147483648) ∧ ((r4 = 0) → Q (-10001) s3) ∧ ((¬ r4 = 0) → (0 ≤ x1 ∧ x1 < 8) ∧ Q (s3 5 (Int.toNat x1)) s3)) : K_Mo_chips x1 s Q := by
  refine Sp.body (by decide) (Nat.le_of_ble_eq_true rfl) ?_
  show Go SM M_Mo_chips (fI Q) 0 [(0, .ref 0), (1, iV x1)] [] s
  refine g_aload_n (npc := 1) dX11_chips_0 rfl rfl rfl ?_
  refine g_iload_n (npc := 2) dX11_chips_1 rfl rfl rfl ?_
  obtain ⟨Q1, h2, hT⟩ := hT
  refine iv_Mo_130 (npc := 5) dX11_chips_2 rfl rfl (Nat.le_of_ble_eq_true rfl) (by decide) h2 (fun r4 s3 e5 => ?_)
  replace hT := hT r4 s3 e5
  obtain ⟨h6, hTt, hTf⟩ := hT
  refine g_if_eq (npc := 8) (tgt := 17) dX11_chips_5 rfl (by decide) h6 (fun c7 => ?_) (fun c7 => ?_)
  · replace hT := hTt c7
    refine g_sipush (npc := 20) (x := (-10001)) dX11_chips_17 rfl (by decide) ?_
    exact g_iret dX11_chips_20 rfl rfl ⟨_, rfl, hT⟩
  · replace hT := hTf c7
    refine g_aload_n (npc := 9) dX11_chips_8 rfl rfl rfl ?_
    refine gf_Mo_22 (npc := 12) dX11_chips_9 rfl rfl ?_
    refine g_iload_n (npc := 13) dX11_chips_12 rfl rfl rfl ?_
    obtain ⟨h8, hT⟩ := hT
    refine g_iald (npc := 14) dX11_chips_13 rfl arSM_5 h8 ?_
    refine g_goto (npc := 20) dX11_chips_14 (by decide) ?_
    exact g_iret dX11_chips_20 rfl rfl ⟨_, rfl, hT⟩
set_option maxRecDepth 20000 in
theorem e_Mo_canFire {k1 : Nat} {x2 : Int} (hk1 : ar SM k1 1 8) {s : Sto} {Q : Int → Sto → Prop} (hT : ((-2147483648 ≤ x2 ∧ x2 < 2147483648) ∧ -2147483648 ≤ (s 0 2) ∧ (s 0 2) < 2147483648) ∧ ((x2 = (s 0 2)) → Q 0 s) ∧ ((¬ x2 = (s 0 2)) → (0 ≤ x2 ∧ x2 < 8) ∧ (-2147483648 ≤ (s 4 (Int.toNat x2)) ∧ (s 4 (Int.toNat x2)) < 2147483648) ∧ (((s 4 (Int.toNat x2)) ≤ 0) → Q 0 s) ∧ ((0 < (s 4 (Int.toNat x2))) → (0 ≤ x2 ∧ x2 < 8) ∧ (0 ≤ x2 ∧ x2 < 8) ∧ ((-2147483648 ≤ (s k1 (Int.toNat x2)) ∧ (s k1 (Int.toNat x2)) < 2147483648) ∧ -2147483648 ≤ (s 4 (Int.toNat x2)) ∧ (s 4 (Int.toNat x2)) < 2147483648) ∧ (((s k1 (Int.toNat x2)) < (s 4 (Int.toNat x2))) → Q 0 s) ∧ (((s 4 (Int.toNat x2)) ≤ (s k1 (Int.toNat x2))) → Q 1 s)))) : K_Mo_canFire k1 x2 s Q := by
  refine Sp.body (by decide) (Nat.le_of_ble_eq_true rfl) ?_
  show Go SM M_Mo_canFire (fI Q) 0 [(0, .ref 0), (1, .ref k1), (2, iV x2)] [] s
  refine g_iload_n (npc := 1) dX11_canFire_0 rfl rfl rfl ?_
  refine g_aload_n (npc := 2) dX11_canFire_1 rfl rfl rfl ?_
  refine gf_Mo_84 (npc := 5) dX11_canFire_2 rfl rfl ?_
  obtain ⟨h1, hTt, hTf⟩ := hT
  refine g_icmp_eq (npc := 8) (tgt := 33) dX11_canFire_5 rfl (by decide) h1 (fun c2 => ?_) (fun c2 => ?_)
  · replace hT := hTt c2
    refine g_iconst (npc := 34) dX11_canFire_33 rfl ?_
    exact g_iret dX11_canFire_34 rfl (by decide) ⟨_, rfl, hT⟩
  · replace hT := hTf c2
    refine g_aload_n (npc := 9) dX11_canFire_8 rfl rfl rfl ?_
    refine gf_Mo_19 (npc := 12) dX11_canFire_9 rfl rfl ?_
    refine g_iload_n (npc := 13) dX11_canFire_12 rfl rfl rfl ?_
    obtain ⟨h3, hT⟩ := hT
    refine g_iald (npc := 14) dX11_canFire_13 rfl arSM_4 h3 ?_
    obtain ⟨h4, hTt, hTf⟩ := hT
    refine g_if_le (npc := 17) (tgt := 33) dX11_canFire_14 rfl (by decide) h4 (fun c5 => ?_) (fun c5 => ?_)
    · replace hT := hTt c5
      refine g_iconst (npc := 34) dX11_canFire_33 rfl ?_
      exact g_iret dX11_canFire_34 rfl (by decide) ⟨_, rfl, hT⟩
    · replace hT := hTf (Int.not_le.mp c5)
      refine g_aload_n (npc := 18) dX11_canFire_17 rfl rfl rfl ?_
      refine g_iload_n (npc := 19) dX11_canFire_18 rfl rfl rfl ?_
      obtain ⟨h6, hT⟩ := hT
      refine g_iald (npc := 20) dX11_canFire_19 rfl hk1 h6 ?_
      refine g_aload_n (npc := 21) dX11_canFire_20 rfl rfl rfl ?_
      refine gf_Mo_19 (npc := 24) dX11_canFire_21 rfl rfl ?_
      refine g_iload_n (npc := 25) dX11_canFire_24 rfl rfl rfl ?_
      obtain ⟨h7, hT⟩ := hT
      refine g_iald (npc := 26) dX11_canFire_25 rfl arSM_4 h7 ?_
      obtain ⟨h8, hTt, hTf⟩ := hT
      refine g_icmp_lt (npc := 29) (tgt := 33) dX11_canFire_26 rfl (by decide) h8 (fun c9 => ?_) (fun c9 => ?_)
      · replace hT := hTt c9
        refine g_iconst (npc := 34) dX11_canFire_33 rfl ?_
        exact g_iret dX11_canFire_34 rfl (by decide) ⟨_, rfl, hT⟩
      · replace hT := hTf (Int.not_lt.mp c9)
        refine g_iconst (npc := 30) dX11_canFire_29 rfl ?_
        refine g_goto (npc := 34) dX11_canFire_30 (by decide) ?_
        exact g_iret dX11_canFire_34 rfl (by decide) ⟨_, rfl, hT⟩
abbrev H_Mo_fireTimes_17 (Q : Sto → Prop) (k1 : Nat) (x2 : Int) (x3 : Int) (x4 : Int) (s : Sto) : Prop := Go SM M_Mo_fireTimes (fV0 Q) 17 [(0, .ref 0), (1, .ref k1), (2, iV x2), (3, iV x3), (4, iV x4)] [] s
set_option maxRecDepth 20000 in
theorem b_Mo_fireTimes_17 {Q : Sto → Prop} {k1 : Nat} {x2 : Int} {x3 : Int} {x4 : Int} (hk1 : ar SM k1 1 8) {s : Sto} (hT : ((-2147483648 ≤ x4 ∧ x4 < 2147483648) ∧ -2147483648 ≤ (s 0 0) ∧ (s 0 0) < 2147483648) ∧ (((s 0 0) ≤ x4) → Q s) ∧ ((x4 < (s 0 0)) → (0 ≤ x4 ∧ x4 < 8) ∧ ((-2147483648 ≤ x4 ∧ x4 < 2147483648) ∧ -2147483648 ≤ (s 0 2) ∧ (s 0 2) < 2147483648) ∧ ((¬ x4 = (s 0 2)) → (0 ≤ ((8 * x2) + x4) ∧ ((8 * x2) + x4) < 64) ∧ (0 ≤ x4 ∧ x4 < 8) ∧ ∀ s12, s12 = up s k1 (Int.toNat x4) ((s k1 (Int.toNat x4)) + (x3 * (s 3 (Int.toNat ((8 * x2) + x4))))) → H_Mo_fireTimes_17 Q k1 x2 x3 (x4 + 1) s12) ∧ ((x4 = (s 0 2)) → (0 ≤ x4 ∧ x4 < 8) ∧ ∀ s14, s14 = up s k1 (Int.toNat x4) ((s k1 (Int.toNat x4)) + 0) → H_Mo_fireTimes_17 Q k1 x2 x3 (x4 + 1) s14))) : H_Mo_fireTimes_17 Q k1 x2 x3 x4 s := by
  refine g_iload (npc := 19) dX11_fireTimes_17 rfl rfl ?_
  refine g_aload_n (npc := 20) dX11_fireTimes_19 rfl rfl rfl ?_
  refine gf_Mo_77 (npc := 23) dX11_fireTimes_20 rfl rfl ?_
  obtain ⟨h5, hTt, hTf⟩ := hT
  refine g_icmp_ge (npc := 26) (tgt := 66) dX11_fireTimes_23 rfl (by decide) h5 (fun c6 => ?_) (fun c6 => ?_)
  · replace hT := hTt c6
    exact g_ret dX11_fireTimes_66 rfl ⟨rfl, hT⟩
  · replace hT := hTf (Int.not_le.mp c6)
    refine g_aload_n (npc := 27) dX11_fireTimes_26 rfl rfl rfl ?_
    refine g_iload (npc := 29) dX11_fireTimes_27 rfl rfl ?_
    refine g_dup2 (npc := 30) dX11_fireTimes_29 rfl rfl rfl ?_
    obtain ⟨h7, hT⟩ := hT
    refine g_iald (npc := 31) dX11_fireTimes_30 rfl hk1 h7 ?_
    refine g_iload (npc := 33) dX11_fireTimes_31 rfl rfl ?_
    refine g_aload_n (npc := 34) dX11_fireTimes_33 rfl rfl rfl ?_
    refine gf_Mo_84 (npc := 37) dX11_fireTimes_34 rfl rfl ?_
    obtain ⟨h8, hTt, hTf⟩ := hT
    refine g_icmp_ne (npc := 40) (tgt := 44) dX11_fireTimes_37 rfl (by decide) h8 (fun c9 => ?_) (fun c9 => ?_)
    · replace hT := hTt c9
      refine g_iload_n (npc := 45) dX11_fireTimes_44 rfl rfl rfl ?_
      refine g_aload_n (npc := 46) dX11_fireTimes_45 rfl rfl rfl ?_
      refine gf_Mo_16 (npc := 49) dX11_fireTimes_46 rfl rfl ?_
      refine g_bipush (npc := 51) (x := 8) dX11_fireTimes_49 rfl (by decide) ?_
      refine g_iload_n (npc := 52) dX11_fireTimes_51 rfl rfl rfl ?_
      refine g_imul (npc := 53) dX11_fireTimes_52 rfl ?_
      refine g_iload (npc := 55) dX11_fireTimes_53 rfl rfl ?_
      refine g_iadd (npc := 56) dX11_fireTimes_55 rfl ?_
      obtain ⟨h10, hT⟩ := hT
      refine g_iald (npc := 57) dX11_fireTimes_56 rfl arSM_3 h10 ?_
      refine g_imul (npc := 58) dX11_fireTimes_57 rfl ?_
      refine g_iadd (npc := 59) dX11_fireTimes_58 rfl ?_
      obtain ⟨h11, hT⟩ := hT
      replace hT := hT _ rfl
      refine g_iast (npc := 60) dX11_fireTimes_59 rfl hk1 h11  ?_
      refine g_iinc (npc := 63) (y := (x4 + 1)) (l' := [(0, .ref 0), (1, .ref k1), (2, iV x2), (3, iV x3), (4, iV (x4 + 1))]) dX11_fireTimes_60 rfl (by decide) rfl (by omega) rfl ?_
      refine g_goto (npc := 17) dX11_fireTimes_63 (by decide) ?_
      exact hT
    · replace hT := hTf (Decidable.not_not.mp c9)
      refine g_iconst (npc := 41) dX11_fireTimes_40 rfl ?_
      refine g_goto (npc := 58) dX11_fireTimes_41 (by decide) ?_
      refine g_iadd (npc := 59) dX11_fireTimes_58 rfl ?_
      obtain ⟨h13, hT⟩ := hT
      replace hT := hT _ rfl
      refine g_iast (npc := 60) dX11_fireTimes_59 rfl hk1 h13  ?_
      refine g_iinc (npc := 63) (y := (x4 + 1)) (l' := [(0, .ref 0), (1, .ref k1), (2, iV x2), (3, iV x3), (4, iV (x4 + 1))]) dX11_fireTimes_60 rfl (by decide) rfl (by omega) rfl ?_
      refine g_goto (npc := 17) dX11_fireTimes_63 (by decide) ?_
      exact hT
set_option maxRecDepth 20000 in
theorem e_Mo_fireTimes {k1 : Nat} {x2 : Int} {x3 : Int} (hk1 : ar SM k1 1 8) {s : Sto} {Q : Sto → Prop} (hT : (0 ≤ x2 ∧ x2 < 8) ∧ (0 ≤ x2 ∧ x2 < 8) ∧ (0 ≤ x2 ∧ x2 < 8) ∧ ∀ s4, s4 = up s k1 (Int.toNat x2) ((s k1 (Int.toNat x2)) - (x3 * (s 4 (Int.toNat x2)))) → H_Mo_fireTimes_17 Q k1 x2 x3 0 s4) : K_Mo_fireTimes k1 x2 x3 s Q := by
  refine Sp.body (by decide) (Nat.le_of_ble_eq_true rfl) ?_
  show Go SM M_Mo_fireTimes (fV0 Q) 0 [(0, .ref 0), (1, .ref k1), (2, iV x2), (3, iV x3)] [] s
  refine g_aload_n (npc := 1) dX11_fireTimes_0 rfl rfl rfl ?_
  refine g_iload_n (npc := 2) dX11_fireTimes_1 rfl rfl rfl ?_
  refine g_dup2 (npc := 3) dX11_fireTimes_2 rfl rfl rfl ?_
  obtain ⟨h1, hT⟩ := hT
  refine g_iald (npc := 4) dX11_fireTimes_3 rfl hk1 h1 ?_
  refine g_iload_n (npc := 5) dX11_fireTimes_4 rfl rfl rfl ?_
  refine g_aload_n (npc := 6) dX11_fireTimes_5 rfl rfl rfl ?_
  refine gf_Mo_19 (npc := 9) dX11_fireTimes_6 rfl rfl ?_
  refine g_iload_n (npc := 10) dX11_fireTimes_9 rfl rfl rfl ?_
  obtain ⟨h2, hT⟩ := hT
  refine g_iald (npc := 11) dX11_fireTimes_10 rfl arSM_4 h2 ?_
  refine g_imul (npc := 12) dX11_fireTimes_11 rfl ?_
  refine g_isub (npc := 13) dX11_fireTimes_12 rfl ?_
  obtain ⟨h3, hT⟩ := hT
  replace hT := hT _ rfl
  refine g_iast (npc := 14) dX11_fireTimes_13 rfl hk1 h3  ?_
  refine g_iconst (npc := 15) dX11_fireTimes_14 rfl ?_
  refine g_istore (npc := 17) (l' := [(0, .ref 0), (1, .ref k1), (2, iV x2), (3, iV x3), (4, iV 0)]) dX11_fireTimes_15 rfl (by decide) rfl ?_
  exact hT
set_option maxRecDepth 20000 in
theorem e_Mo_fire {x1 : Int} {s : Sto} {Q : Int → Sto → Prop} (hT : ∃ Q1 : Int → Sto → Prop, K_Mo_hasChips x1 s Q1 ∧ ∀ r4 s3, Q1 r4 s3 → (-2147483648 ≤ r4 ∧ r4 < 2147483648) ∧ ((¬ r4 = 0) → ∃ Q8 : Int → Sto → Prop, K_Mo_canFire 5 x1 s3 Q8 ∧ ∀ r11 s10, Q8 r11 s10 → (-2147483648 ≤ r11 ∧ r11 < 2147483648) ∧ ((¬ r11 = 0) → ∃ Q15 : Sto → Prop, K_Mo_keepState s10 Q15 ∧ ∀ s17, Q15 s17 → ∃ Q20 : Sto → Prop, K_Mo_fireTimes 5 x1 1 s17 Q20 ∧ ∀ s22, Q20 s22 → (0 ≤ x1 ∧ x1 < 8) ∧ Q (s22 5 (Int.toNat x1)) s22) ∧ ((r11 = 0) → Q (-10004) s10)) ∧ ((r4 = 0) → Q (-10001) s3)) : K_Mo_fire x1 s Q := by
  refine Sp.body (by decide) (Nat.le_of_ble_eq_true rfl) ?_
  show Go SM M_Mo_fire (fI Q) 0 [(0, .ref 0), (1, iV x1)] [] s
  refine g_aload_n (npc := 1) dX11_fire_0 rfl rfl rfl ?_
  refine g_iload_n (npc := 2) dX11_fire_1 rfl rfl rfl ?_
  obtain ⟨Q1, h2, hT⟩ := hT
  refine iv_Mo_130 (npc := 5) dX11_fire_2 rfl rfl (Nat.le_of_ble_eq_true rfl) (by decide) h2 (fun r4 s3 e5 => ?_)
  replace hT := hT r4 s3 e5
  obtain ⟨h6, hTt, hTf⟩ := hT
  refine g_if_ne (npc := 8) (tgt := 12) dX11_fire_5 rfl (by decide) h6 (fun c7 => ?_) (fun c7 => ?_)
  · replace hT := hTt c7
    refine g_aload_n (npc := 13) dX11_fire_12 rfl rfl rfl ?_
    refine g_aload_n (npc := 14) dX11_fire_13 rfl rfl rfl ?_
    refine gf_Mo_22 (npc := 17) dX11_fire_14 rfl rfl ?_
    refine g_iload_n (npc := 18) dX11_fire_17 rfl rfl rfl ?_
    obtain ⟨Q8, h9, hT⟩ := hT
    refine iv_Mo_136 (npc := 21) dX11_fire_18 rfl rfl (Nat.le_of_ble_eq_true rfl) (by decide) h9 (fun r11 s10 e12 => ?_)
    replace hT := hT r11 s10 e12
    obtain ⟨h13, hTt, hTf⟩ := hT
    refine g_if_ne (npc := 24) (tgt := 28) dX11_fire_21 rfl (by decide) h13 (fun c14 => ?_) (fun c14 => ?_)
    · replace hT := hTt c14
      refine g_aload_n (npc := 29) dX11_fire_28 rfl rfl rfl ?_
      obtain ⟨Q15, h16, hT⟩ := hT
      refine iv_Mo_133 (npc := 32) dX11_fire_29 rfl rfl (Nat.le_of_ble_eq_true rfl) (by decide) h16 (fun s17 e19 => ?_)
      replace hT := hT s17 e19
      refine g_aload_n (npc := 33) dX11_fire_32 rfl rfl rfl ?_
      refine g_aload_n (npc := 34) dX11_fire_33 rfl rfl rfl ?_
      refine gf_Mo_22 (npc := 37) dX11_fire_34 rfl rfl ?_
      refine g_iload_n (npc := 38) dX11_fire_37 rfl rfl rfl ?_
      refine g_iconst (npc := 39) dX11_fire_38 rfl ?_
      obtain ⟨Q20, h21, hT⟩ := hT
      refine iv_Mo_140 (npc := 42) dX11_fire_39 rfl rfl (Nat.le_of_ble_eq_true rfl) (by decide) h21 (fun s22 e24 => ?_)
      replace hT := hT s22 e24
      refine g_aload_n (npc := 43) dX11_fire_42 rfl rfl rfl ?_
      refine gf_Mo_22 (npc := 46) dX11_fire_43 rfl rfl ?_
      refine g_iload_n (npc := 47) dX11_fire_46 rfl rfl rfl ?_
      obtain ⟨h25, hT⟩ := hT
      refine g_iald (npc := 48) dX11_fire_47 rfl arSM_5 h25 ?_
      exact g_iret dX11_fire_48 rfl rfl ⟨_, rfl, hT⟩
    · replace hT := hTf (Decidable.not_not.mp c14)
      refine g_sipush (npc := 27) (x := (-10004)) dX11_fire_24 rfl (by decide) ?_
      exact g_iret dX11_fire_27 rfl rfl ⟨_, rfl, hT⟩
  · replace hT := hTf (Decidable.not_not.mp c7)
    refine g_sipush (npc := 11) (x := (-10001)) dX11_fire_8 rfl (by decide) ?_
    exact g_iret dX11_fire_11 rfl rfl ⟨_, rfl, hT⟩
abbrev H_Mo_settle_2 (Q : Int → Sto → Prop) (k1 : Nat) (x2 : Int) (s : Sto) : Prop := Go SM M_Mo_settle (fI Q) 2 [(0, .ref 0), (1, .ref k1), (2, iV x2)] [] s
abbrev H_Mo_settle_25 (Q : Int → Sto → Prop) (k1 : Nat) (x2 : Int) (x3 : Int) (s : Sto) : Prop := Go SM M_Mo_settle (fI Q) 25 [(0, .ref 0), (1, .ref k1), (2, iV x2), (3, iV x3)] [] s
abbrev H_Mo_settle_34 (Q : Int → Sto → Prop) (k1 : Nat) (x2 : Int) (x3 : Int) (x4 : Int) (s : Sto) : Prop := Go SM M_Mo_settle (fI Q) 34 [(0, .ref 0), (1, .ref k1), (2, iV x2), (3, iV x3), (4, iV x4)] [] s
set_option maxRecDepth 20000 in
theorem b_Mo_settle_2 {Q : Int → Sto → Prop} {k1 : Nat} {x2 : Int} (hk1 : ar SM k1 1 8) {s : Sto} (hT : (-2147483648 ≤ x2 ∧ x2 < 2147483648) ∧ ((8 ≤ x2) → H_Mo_settle_25 Q k1 0 1 s) ∧ ((x2 < 8) → (0 ≤ x2 ∧ x2 < 8) ∧ ∀ s4, s4 = up s 11 (Int.toNat x2) 0 → H_Mo_settle_2 Q k1 (x2 + 1) s4)) : H_Mo_settle_2 Q k1 x2 s := by
  refine g_iload_n (npc := 3) dX11_settle_2 rfl rfl rfl ?_
  refine g_bipush (npc := 5) (x := 8) dX11_settle_3 rfl (by decide) ?_
  obtain ⟨h1, hTt, hTf⟩ := hT
  refine g_icmp_ge (npc := 8) (tgt := 21) dX11_settle_5 rfl (by decide) ⟨h1, by decide, by decide⟩ (fun c2 => ?_) (fun c2 => ?_)
  · replace hT := hTt c2
    refine g_iconst (npc := 22) dX11_settle_21 rfl ?_
    refine g_istore_n (npc := 23) (l' := [(0, .ref 0), (1, .ref k1), (2, iV 0)]) dX11_settle_22 rfl rfl (by decide) rfl ?_
    refine g_iconst (npc := 24) dX11_settle_23 rfl ?_
    refine g_istore_n (npc := 25) (l' := [(0, .ref 0), (1, .ref k1), (2, iV 0), (3, iV 1)]) dX11_settle_24 rfl rfl (by decide) rfl ?_
    exact hT
  · replace hT := hTf (Int.not_le.mp c2)
    refine g_aload_n (npc := 9) dX11_settle_8 rfl rfl rfl ?_
    refine gf_Mo_42 (npc := 12) dX11_settle_9 rfl rfl ?_
    refine g_iload_n (npc := 13) dX11_settle_12 rfl rfl rfl ?_
    refine g_iconst (npc := 14) dX11_settle_13 rfl ?_
    obtain ⟨h3, hT⟩ := hT
    replace hT := hT _ rfl
    refine g_iast (npc := 15) dX11_settle_14 rfl arSM_11 h3  ?_
    refine g_iinc (npc := 18) (y := (x2 + 1)) (l' := [(0, .ref 0), (1, .ref k1), (2, iV (x2 + 1))]) dX11_settle_15 rfl (by decide) rfl (by omega) rfl ?_
    refine g_goto (npc := 2) dX11_settle_18 (by decide) ?_
    exact hT
set_option maxRecDepth 20000 in
theorem b_Mo_settle_25 {Q : Int → Sto → Prop} {k1 : Nat} {x2 : Int} {x3 : Int} (hk1 : ar SM k1 1 8) {s : Sto} (hT : (-2147483648 ≤ x3 ∧ x3 < 2147483648) ∧ ((x3 = 0) → Q x2 s) ∧ ((¬ x3 = 0) → H_Mo_settle_34 Q k1 x2 0 0 s)) : H_Mo_settle_25 Q k1 x2 x3 s := by
  refine g_iload_n (npc := 26) dX11_settle_25 rfl rfl rfl ?_
  obtain ⟨h5, hTt, hTf⟩ := hT
  refine g_if_eq (npc := 29) (tgt := 104) dX11_settle_26 rfl (by decide) h5 (fun c6 => ?_) (fun c6 => ?_)
  · replace hT := hTt c6
    refine g_iload_n (npc := 105) dX11_settle_104 rfl rfl rfl ?_
    exact g_iret dX11_settle_105 rfl rfl ⟨_, rfl, hT⟩
  · replace hT := hTf c6
    refine g_iconst (npc := 30) dX11_settle_29 rfl ?_
    refine g_istore_n (npc := 31) (l' := [(0, .ref 0), (1, .ref k1), (2, iV x2), (3, iV 0)]) dX11_settle_30 rfl rfl (by decide) rfl ?_
    refine g_iconst (npc := 32) dX11_settle_31 rfl ?_
    refine g_istore (npc := 34) (l' := [(0, .ref 0), (1, .ref k1), (2, iV x2), (3, iV 0), (4, iV 0)]) dX11_settle_32 rfl (by decide) rfl ?_
    exact hT
set_option maxRecDepth 20000 in
theorem b_Mo_settle_34 {Q : Int → Sto → Prop} {k1 : Nat} {x2 : Int} {x3 : Int} {x4 : Int} (hk1 : ar SM k1 1 8) {s : Sto} (hT : ((-2147483648 ≤ x4 ∧ x4 < 2147483648) ∧ -2147483648 ≤ (s 0 0) ∧ (s 0 0) < 2147483648) ∧ (((s 0 0) ≤ x4) → H_Mo_settle_25 Q k1 x2 x3 s) ∧ ((x4 < (s 0 0)) → ∃ Q9 : Int → Sto → Prop, K_Mo_canFire k1 x4 s Q9 ∧ ∀ r12 s11, Q9 r12 s11 → (-2147483648 ≤ r12 ∧ r12 < 2147483648) ∧ ((r12 = 0) → H_Mo_settle_34 Q k1 x2 x3 (x4 + 1) s11) ∧ ((¬ r12 = 0) → (0 ≤ x4 ∧ x4 < 8) ∧ (0 ≤ x4 ∧ x4 < 8) ∧ (((-2147483648 ≤ (s11 k1 (Int.toNat x4)) ∧ (s11 k1 (Int.toNat x4)) < 2147483648) ∧ -2147483648 ≤ (s11 4 (Int.toNat x4)) ∧ (s11 4 (Int.toNat x4)) < 2147483648) ∧ ¬ (s11 4 (Int.toNat x4)) = 0) ∧ ∃ Q19 : Sto → Prop, K_Mo_fireTimes k1 x4 (Int.tdiv (s11 k1 (Int.toNat x4)) (s11 4 (Int.toNat x4))) s11 Q19 ∧ ∀ s21, Q19 s21 → (0 ≤ x4 ∧ x4 < 8) ∧ (0 ≤ x4 ∧ x4 < 8) ∧ ∀ s26, s26 = up s21 11 (Int.toNat x4) ((s21 11 (Int.toNat x4)) + (Int.tdiv (s11 k1 (Int.toNat x4)) (s11 4 (Int.toNat x4)))) → H_Mo_settle_34 Q k1 (x2 + (Int.tdiv (s11 k1 (Int.toNat x4)) (s11 4 (Int.toNat x4)))) 1 (x4 + 1) s26))) : H_Mo_settle_34 Q k1 x2 x3 x4 s := by
  refine g_iload (npc := 36) dX11_settle_34 rfl rfl ?_
  refine g_aload_n (npc := 37) dX11_settle_36 rfl rfl rfl ?_
  refine gf_Mo_77 (npc := 40) dX11_settle_37 rfl rfl ?_
  obtain ⟨h7, hTt, hTf⟩ := hT
  refine g_icmp_ge (npc := 43) (tgt := 101) dX11_settle_40 rfl (by decide) h7 (fun c8 => ?_) (fun c8 => ?_)
  · replace hT := hTt c8
    refine g_goto (npc := 25) dX11_settle_101 (by decide) ?_
    refine Go.lsub [0, 1, 2, 3] rfl ?_
    exact hT
  · replace hT := hTf (Int.not_le.mp c8)
    refine g_aload_n (npc := 44) dX11_settle_43 rfl rfl rfl ?_
    refine g_aload_n (npc := 45) dX11_settle_44 rfl rfl rfl ?_
    refine g_iload (npc := 47) dX11_settle_45 rfl rfl ?_
    obtain ⟨Q9, h10, hT⟩ := hT
    refine iv_Mo_136 (npc := 50) dX11_settle_47 rfl rfl (Nat.le_of_ble_eq_true rfl) (by decide) h10 (fun r12 s11 e13 => ?_)
    replace hT := hT r12 s11 e13
    obtain ⟨h14, hTt, hTf⟩ := hT
    refine g_if_eq (npc := 53) (tgt := 95) dX11_settle_50 rfl (by decide) h14 (fun c15 => ?_) (fun c15 => ?_)
    · replace hT := hTt c15
      refine g_iinc (npc := 98) (y := (x4 + 1)) (l' := [(0, .ref 0), (1, .ref k1), (2, iV x2), (3, iV x3), (4, iV (x4 + 1))]) dX11_settle_95 rfl (by decide) rfl (by omega) rfl ?_
      refine g_goto (npc := 34) dX11_settle_98 (by decide) ?_
      exact hT
    · replace hT := hTf c15
      refine g_aload_n (npc := 54) dX11_settle_53 rfl rfl rfl ?_
      refine g_iload (npc := 56) dX11_settle_54 rfl rfl ?_
      obtain ⟨h16, hT⟩ := hT
      refine g_iald (npc := 57) dX11_settle_56 rfl hk1 h16 ?_
      refine g_aload_n (npc := 58) dX11_settle_57 rfl rfl rfl ?_
      refine gf_Mo_19 (npc := 61) dX11_settle_58 rfl rfl ?_
      refine g_iload (npc := 63) dX11_settle_61 rfl rfl ?_
      obtain ⟨h17, hT⟩ := hT
      refine g_iald (npc := 64) dX11_settle_63 rfl arSM_4 h17 ?_
      obtain ⟨h18, hT⟩ := hT
      refine g_idiv (npc := 65) dX11_settle_64 rfl h18.1 h18.2 ?_
      refine g_istore (npc := 67) (l' := [(0, .ref 0), (1, .ref k1), (2, iV x2), (3, iV x3), (4, iV x4), (5, iV (Int.tdiv (s11 k1 (Int.toNat x4)) (s11 4 (Int.toNat x4))))]) dX11_settle_65 rfl (by decide) rfl ?_
      refine g_aload_n (npc := 68) dX11_settle_67 rfl rfl rfl ?_
      refine g_aload_n (npc := 69) dX11_settle_68 rfl rfl rfl ?_
      refine g_iload (npc := 71) dX11_settle_69 rfl rfl ?_
      refine g_iload (npc := 73) dX11_settle_71 rfl rfl ?_
      obtain ⟨Q19, h20, hT⟩ := hT
      refine iv_Mo_140 (npc := 76) dX11_settle_73 rfl rfl (Nat.le_of_ble_eq_true rfl) (by decide) h20 (fun s21 e23 => ?_)
      replace hT := hT s21 e23
      refine g_aload_n (npc := 77) dX11_settle_76 rfl rfl rfl ?_
      refine gf_Mo_42 (npc := 80) dX11_settle_77 rfl rfl ?_
      refine g_iload (npc := 82) dX11_settle_80 rfl rfl ?_
      refine g_dup2 (npc := 83) dX11_settle_82 rfl rfl rfl ?_
      obtain ⟨h24, hT⟩ := hT
      refine g_iald (npc := 84) dX11_settle_83 rfl arSM_11 h24 ?_
      refine g_iload (npc := 86) dX11_settle_84 rfl rfl ?_
      refine g_iadd (npc := 87) dX11_settle_86 rfl ?_
      obtain ⟨h25, hT⟩ := hT
      replace hT := hT _ rfl
      refine g_iast (npc := 88) dX11_settle_87 rfl arSM_11 h25  ?_
      refine g_iload_n (npc := 89) dX11_settle_88 rfl rfl rfl ?_
      refine g_iload (npc := 91) dX11_settle_89 rfl rfl ?_
      refine g_iadd (npc := 92) dX11_settle_91 rfl ?_
      refine g_istore_n (npc := 93) (l' := [(0, .ref 0), (1, .ref k1), (2, iV (x2 + (Int.tdiv (s11 k1 (Int.toNat x4)) (s11 4 (Int.toNat x4))))), (3, iV x3), (4, iV x4), (5, iV (Int.tdiv (s11 k1 (Int.toNat x4)) (s11 4 (Int.toNat x4))))]) dX11_settle_92 rfl rfl (by decide) rfl ?_
      refine g_iconst (npc := 94) dX11_settle_93 rfl ?_
      refine g_istore_n (npc := 95) (l' := [(0, .ref 0), (1, .ref k1), (2, iV (x2 + (Int.tdiv (s11 k1 (Int.toNat x4)) (s11 4 (Int.toNat x4))))), (3, iV 1), (4, iV x4), (5, iV (Int.tdiv (s11 k1 (Int.toNat x4)) (s11 4 (Int.toNat x4))))]) dX11_settle_94 rfl rfl (by decide) rfl ?_
      refine g_iinc (npc := 98) (y := (x4 + 1)) (l' := [(0, .ref 0), (1, .ref k1), (2, iV (x2 + (Int.tdiv (s11 k1 (Int.toNat x4)) (s11 4 (Int.toNat x4))))), (3, iV 1), (4, iV (x4 + 1)), (5, iV (Int.tdiv (s11 k1 (Int.toNat x4)) (s11 4 (Int.toNat x4))))]) dX11_settle_95 rfl (by decide) rfl (by omega) rfl ?_
      refine g_goto (npc := 34) dX11_settle_98 (by decide) ?_
      refine Go.lsub [0, 1, 2, 3, 4] rfl ?_
      exact hT
set_option maxRecDepth 20000 in
theorem e_Mo_settle {k1 : Nat} (hk1 : ar SM k1 1 8) {s : Sto} {Q : Int → Sto → Prop} (hT : H_Mo_settle_2 Q k1 0 s) : K_Mo_settle k1 s Q := by
  refine Sp.body (by decide) (Nat.le_of_ble_eq_true rfl) ?_
  show Go SM M_Mo_settle (fI Q) 0 [(0, .ref 0), (1, .ref k1)] [] s
  refine g_iconst (npc := 1) dX11_settle_0 rfl ?_
  refine g_istore_n (npc := 2) (l' := [(0, .ref 0), (1, .ref k1), (2, iV 0)]) dX11_settle_1 rfl rfl (by decide) rfl ?_
  exact hT
set_option maxRecDepth 20000 in
theorem e_Mo_stabilize {s : Sto} {Q : Int → Sto → Prop} (hT : ∃ Q1 : Int → Sto → Prop, K_Mo_isConnected s Q1 ∧ ∀ r4 s3, Q1 r4 s3 → (-2147483648 ≤ r4 ∧ r4 < 2147483648) ∧ ((¬ r4 = 0) → ∃ Q8 : Sto → Prop, K_Mo_keepState s3 Q8 ∧ ∀ s10, Q8 s10 → ∃ Q13 : Int → Sto → Prop, K_Mo_settle 5 s10 Q13 ∧ ∀ r16 s15, Q13 r16 s15 → Q r16 s15) ∧ ((r4 = 0) → Q (-10003) s3)) : K_Mo_stabilize s Q := by
  refine Sp.body (by decide) (Nat.le_of_ble_eq_true rfl) ?_
  show Go SM M_Mo_stabilize (fI Q) 0 [(0, .ref 0)] [] s
  refine g_aload_n (npc := 1) dX11_stabilize_0 rfl rfl rfl ?_
  obtain ⟨Q1, h2, hT⟩ := hT
  refine iv_Mo_119 (npc := 4) dX11_stabilize_1 rfl rfl (Nat.le_of_ble_eq_true rfl) (by decide) h2 (fun r4 s3 e5 => ?_)
  replace hT := hT r4 s3 e5
  obtain ⟨h6, hTt, hTf⟩ := hT
  refine g_if_ne (npc := 7) (tgt := 11) dX11_stabilize_4 rfl (by decide) h6 (fun c7 => ?_) (fun c7 => ?_)
  · replace hT := hTt c7
    refine g_aload_n (npc := 12) dX11_stabilize_11 rfl rfl rfl ?_
    obtain ⟨Q8, h9, hT⟩ := hT
    refine iv_Mo_133 (npc := 15) dX11_stabilize_12 rfl rfl (Nat.le_of_ble_eq_true rfl) (by decide) h9 (fun s10 e12 => ?_)
    replace hT := hT s10 e12
    refine g_aload_n (npc := 16) dX11_stabilize_15 rfl rfl rfl ?_
    refine g_aload_n (npc := 17) dX11_stabilize_16 rfl rfl rfl ?_
    refine gf_Mo_22 (npc := 20) dX11_stabilize_17 rfl rfl ?_
    obtain ⟨Q13, h14, hT⟩ := hT
    refine iv_Mo_144 (npc := 23) dX11_stabilize_20 rfl rfl (Nat.le_of_ble_eq_true rfl) (by decide) h14 (fun r16 s15 e17 => ?_)
    replace hT := hT r16 s15 e17
    exact g_iret dX11_stabilize_23 rfl rfl ⟨_, rfl, hT⟩
  · replace hT := hTf (Decidable.not_not.mp c7)
    refine g_sipush (npc := 10) (x := (-10003)) dX11_stabilize_7 rfl (by decide) ?_
    exact g_iret dX11_stabilize_10 rfl rfl ⟨_, rfl, hT⟩
abbrev H_Mo_copy_2 (Q : Sto → Prop) (k1 : Nat) (k2 : Nat) (x3 : Int) (s : Sto) : Prop := Go SM M_Mo_copy (fV0 Q) 2 [(1, .ref k1), (2, .ref k2), (3, iV x3)] [] s
set_option maxRecDepth 20000 in
theorem b_Mo_copy_2 {Q : Sto → Prop} {k1 : Nat} {k2 : Nat} {x3 : Int} (hk1 : ar SM k1 1 8) (hk2 : ar SM k2 1 8) {s : Sto} (hT : (-2147483648 ≤ x3 ∧ x3 < 2147483648) ∧ ((8 ≤ x3) → Q s) ∧ ((x3 < 8) → (0 ≤ x3 ∧ x3 < 8) ∧ (0 ≤ x3 ∧ x3 < 8) ∧ ∀ s5, s5 = up s k2 (Int.toNat x3) (s k1 (Int.toNat x3)) → H_Mo_copy_2 Q k1 k2 (x3 + 1) s5)) : H_Mo_copy_2 Q k1 k2 x3 s := by
  refine g_iload_n (npc := 3) dX11_copy_2 rfl rfl rfl ?_
  refine g_bipush (npc := 5) (x := 8) dX11_copy_3 rfl (by decide) ?_
  obtain ⟨h1, hTt, hTf⟩ := hT
  refine g_icmp_ge (npc := 8) (tgt := 20) dX11_copy_5 rfl (by decide) ⟨h1, by decide, by decide⟩ (fun c2 => ?_) (fun c2 => ?_)
  · replace hT := hTt c2
    exact g_ret dX11_copy_20 rfl ⟨rfl, hT⟩
  · replace hT := hTf (Int.not_le.mp c2)
    refine g_aload_n (npc := 9) dX11_copy_8 rfl rfl rfl ?_
    refine g_iload_n (npc := 10) dX11_copy_9 rfl rfl rfl ?_
    refine g_aload_n (npc := 11) dX11_copy_10 rfl rfl rfl ?_
    refine g_iload_n (npc := 12) dX11_copy_11 rfl rfl rfl ?_
    obtain ⟨h3, hT⟩ := hT
    refine g_iald (npc := 13) dX11_copy_12 rfl hk1 h3 ?_
    obtain ⟨h4, hT⟩ := hT
    replace hT := hT _ rfl
    refine g_iast (npc := 14) dX11_copy_13 rfl hk2 h4  ?_
    refine g_iinc (npc := 17) (y := (x3 + 1)) (l' := [(1, .ref k1), (2, .ref k2), (3, iV (x3 + 1))]) dX11_copy_14 rfl (by decide) rfl (by omega) rfl ?_
    refine g_goto (npc := 2) dX11_copy_17 (by decide) ?_
    exact hT
set_option maxRecDepth 20000 in
theorem e_Mo_copy {k1 : Nat} {k2 : Nat} (hk1 : ar SM k1 1 8) (hk2 : ar SM k2 1 8) {s : Sto} {Q : Sto → Prop} (hT : H_Mo_copy_2 Q k1 k2 0 s) : K_Mo_copy k1 k2 s Q := by
  refine Sp.body (by decide) (Nat.le_of_ble_eq_true rfl) ?_
  show Go SM M_Mo_copy (fV0 Q) 0 [(0, .ref 0), (1, .ref k1), (2, .ref k2)] [] s
  refine g_iconst (npc := 1) dX11_copy_0 rfl ?_
  refine g_istore_n (npc := 2) (l' := [(0, .ref 0), (1, .ref k1), (2, .ref k2), (3, iV 0)]) dX11_copy_1 rfl rfl (by decide) rfl ?_
  refine Go.lsub [1, 2, 3] rfl ?_
  exact hT
set_option maxRecDepth 20000 in
theorem e_Mo_firings {x1 : Int} {s : Sto} {Q : Int → Sto → Prop} (hT : ∃ Q1 : Int → Sto → Prop, K_Mo_hasChips x1 s Q1 ∧ ∀ r4 s3, Q1 r4 s3 → (-2147483648 ≤ r4 ∧ r4 < 2147483648) ∧ ((¬ r4 = 0) → ∃ Q8 : Int → Sto → Prop, K_Mo_isConnected s3 Q8 ∧ ∀ r11 s10, Q8 r11 s10 → (-2147483648 ≤ r11 ∧ r11 < 2147483648) ∧ ((¬ r11 = 0) → ∃ Q15 : Sto → Prop, K_Mo_copy 5 12 s10 Q15 ∧ ∀ s17, Q15 s17 → ∃ Q20 : Int → Sto → Prop, K_Mo_settle 12 s17 Q20 ∧ ∀ r23 s22, Q20 r23 s22 → (0 ≤ x1 ∧ x1 < 8) ∧ Q (s22 11 (Int.toNat x1)) s22) ∧ ((r11 = 0) → Q (-10003) s10)) ∧ ((r4 = 0) → Q (-10001) s3)) : K_Mo_firings x1 s Q := by
  refine Sp.body (by decide) (Nat.le_of_ble_eq_true rfl) ?_
  show Go SM M_Mo_firings (fI Q) 0 [(0, .ref 0), (1, iV x1)] [] s
  refine g_aload_n (npc := 1) dX11_firings_0 rfl rfl rfl ?_
  refine g_iload_n (npc := 2) dX11_firings_1 rfl rfl rfl ?_
  obtain ⟨Q1, h2, hT⟩ := hT
  refine iv_Mo_130 (npc := 5) dX11_firings_2 rfl rfl (Nat.le_of_ble_eq_true rfl) (by decide) h2 (fun r4 s3 e5 => ?_)
  replace hT := hT r4 s3 e5
  obtain ⟨h6, hTt, hTf⟩ := hT
  refine g_if_ne (npc := 8) (tgt := 12) dX11_firings_5 rfl (by decide) h6 (fun c7 => ?_) (fun c7 => ?_)
  · replace hT := hTt c7
    refine g_aload_n (npc := 13) dX11_firings_12 rfl rfl rfl ?_
    obtain ⟨Q8, h9, hT⟩ := hT
    refine iv_Mo_119 (npc := 16) dX11_firings_13 rfl rfl (Nat.le_of_ble_eq_true rfl) (by decide) h9 (fun r11 s10 e12 => ?_)
    replace hT := hT r11 s10 e12
    obtain ⟨h13, hTt, hTf⟩ := hT
    refine g_if_ne (npc := 19) (tgt := 23) dX11_firings_16 rfl (by decide) h13 (fun c14 => ?_) (fun c14 => ?_)
    · replace hT := hTt c14
      refine g_aload_n (npc := 24) dX11_firings_23 rfl rfl rfl ?_
      refine g_aload_n (npc := 25) dX11_firings_24 rfl rfl rfl ?_
      refine gf_Mo_22 (npc := 28) dX11_firings_25 rfl rfl ?_
      refine g_aload_n (npc := 29) dX11_firings_28 rfl rfl rfl ?_
      refine gf_Mo_45 (npc := 32) dX11_firings_29 rfl rfl ?_
      obtain ⟨Q15, h16, hT⟩ := hT
      refine iv_Mo_148 (npc := 35) dX11_firings_32 rfl rfl (Nat.le_of_ble_eq_true rfl) (by decide) h16 (fun s17 e19 => ?_)
      replace hT := hT s17 e19
      refine g_aload_n (npc := 36) dX11_firings_35 rfl rfl rfl ?_
      refine g_aload_n (npc := 37) dX11_firings_36 rfl rfl rfl ?_
      refine gf_Mo_45 (npc := 40) dX11_firings_37 rfl rfl ?_
      obtain ⟨Q20, h21, hT⟩ := hT
      refine iv_Mo_144 (npc := 43) dX11_firings_40 rfl rfl (Nat.le_of_ble_eq_true rfl) (by decide) h21 (fun r23 s22 e24 => ?_)
      replace hT := hT r23 s22 e24
      refine g_pop (npc := 44) dX11_firings_43 rfl rfl ?_
      refine g_aload_n (npc := 45) dX11_firings_44 rfl rfl rfl ?_
      refine gf_Mo_42 (npc := 48) dX11_firings_45 rfl rfl ?_
      refine g_iload_n (npc := 49) dX11_firings_48 rfl rfl rfl ?_
      obtain ⟨h25, hT⟩ := hT
      refine g_iald (npc := 50) dX11_firings_49 rfl arSM_11 h25 ?_
      exact g_iret dX11_firings_50 rfl rfl ⟨_, rfl, hT⟩
    · replace hT := hTf (Decidable.not_not.mp c14)
      refine g_sipush (npc := 22) (x := (-10003)) dX11_firings_19 rfl (by decide) ?_
      exact g_iret dX11_firings_22 rfl rfl ⟨_, rfl, hT⟩
  · replace hT := hTf (Decidable.not_not.mp c7)
    refine g_sipush (npc := 11) (x := (-10001)) dX11_firings_8 rfl (by decide) ?_
    exact g_iret dX11_firings_11 rfl rfl ⟨_, rfl, hT⟩
abbrev H_Mo_burn_2 (Q : Sto → Prop) (k1 : Nat) (x2 : Int) (x3 : Int) (s : Sto) : Prop := Go SM M_Mo_burn (fV0 Q) 2 [(0, .ref 0), (1, .ref k1), (2, iV x2), (3, iV x3)] [] s
abbrev H_Mo_burn_38 (Q : Sto → Prop) (k1 : Nat) (x2 : Int) (x3 : Int) (x4 : Int) (s : Sto) : Prop := Go SM M_Mo_burn (fV0 Q) 38 [(0, .ref 0), (1, .ref k1), (2, iV x2), (3, iV x3), (4, iV x4)] [] s
abbrev H_Mo_burn_47 (Q : Sto → Prop) (k1 : Nat) (x2 : Int) (x3 : Int) (x4 : Int) (x5 : Int) (s : Sto) : Prop := Go SM M_Mo_burn (fV0 Q) 47 [(0, .ref 0), (1, .ref k1), (2, iV x2), (3, iV x3), (4, iV x4), (5, iV x5)] [] s
abbrev H_Mo_burn_72 (Q : Sto → Prop) (k1 : Nat) (x2 : Int) (x3 : Int) (x4 : Int) (x5 : Int) (x6 : Int) (x7 : Int) (s : Sto) : Prop := Go SM M_Mo_burn (fV0 Q) 72 [(0, .ref 0), (1, .ref k1), (2, iV x2), (3, iV x3), (4, iV x4), (5, iV x5), (6, iV x6), (7, iV x7)] [] s
set_option maxRecDepth 20000 in
theorem b_Mo_burn_2 {Q : Sto → Prop} {k1 : Nat} {x2 : Int} {x3 : Int} (hk1 : ar SM k1 1 8) {s : Sto} (hT : (-2147483648 ≤ x3 ∧ x3 < 2147483648) ∧ ((8 ≤ x3) → H_Mo_burn_38 Q k1 x2 1 1 s) ∧ ((x3 < 8) → ((-2147483648 ≤ x3 ∧ x3 < 2147483648) ∧ -2147483648 ≤ (s 0 2) ∧ (s 0 2) < 2147483648) ∧ ((¬ x3 = (s 0 2)) → (0 ≤ x3 ∧ x3 < 8) ∧ ∀ s6, s6 = up s 7 (Int.toNat x3) (-1) → H_Mo_burn_2 Q k1 x2 (x3 + 1) s6) ∧ ((x3 = (s 0 2)) → (0 ≤ x3 ∧ x3 < 8) ∧ ∀ s8, s8 = up s 7 (Int.toNat x3) 0 → H_Mo_burn_2 Q k1 x2 (x3 + 1) s8))) : H_Mo_burn_2 Q k1 x2 x3 s := by
  refine g_iload_n (npc := 3) dX11_burn_2 rfl rfl rfl ?_
  refine g_bipush (npc := 5) (x := 8) dX11_burn_3 rfl (by decide) ?_
  obtain ⟨h1, hTt, hTf⟩ := hT
  refine g_icmp_ge (npc := 8) (tgt := 33) dX11_burn_5 rfl (by decide) ⟨h1, by decide, by decide⟩ (fun c2 => ?_) (fun c2 => ?_)
  · replace hT := hTt c2
    refine g_iconst (npc := 34) dX11_burn_33 rfl ?_
    refine g_istore_n (npc := 35) (l' := [(0, .ref 0), (1, .ref k1), (2, iV x2), (3, iV 1)]) dX11_burn_34 rfl rfl (by decide) rfl ?_
    refine g_iconst (npc := 36) dX11_burn_35 rfl ?_
    refine g_istore (npc := 38) (l' := [(0, .ref 0), (1, .ref k1), (2, iV x2), (3, iV 1), (4, iV 1)]) dX11_burn_36 rfl (by decide) rfl ?_
    exact hT
  · replace hT := hTf (Int.not_le.mp c2)
    refine g_aload_n (npc := 9) dX11_burn_8 rfl rfl rfl ?_
    refine gf_Mo_29 (npc := 12) dX11_burn_9 rfl rfl ?_
    refine g_iload_n (npc := 13) dX11_burn_12 rfl rfl rfl ?_
    refine g_iload_n (npc := 14) dX11_burn_13 rfl rfl rfl ?_
    refine g_aload_n (npc := 15) dX11_burn_14 rfl rfl rfl ?_
    refine gf_Mo_84 (npc := 18) dX11_burn_15 rfl rfl ?_
    obtain ⟨h3, hTt, hTf⟩ := hT
    refine g_icmp_ne (npc := 21) (tgt := 25) dX11_burn_18 rfl (by decide) h3 (fun c4 => ?_) (fun c4 => ?_)
    · replace hT := hTt c4
      refine g_iconst (npc := 26) dX11_burn_25 rfl ?_
      obtain ⟨h5, hT⟩ := hT
      replace hT := hT _ rfl
      refine g_iast (npc := 27) dX11_burn_26 rfl arSM_7 h5  ?_
      refine g_iinc (npc := 30) (y := (x3 + 1)) (l' := [(0, .ref 0), (1, .ref k1), (2, iV x2), (3, iV (x3 + 1))]) dX11_burn_27 rfl (by decide) rfl (by omega) rfl ?_
      refine g_goto (npc := 2) dX11_burn_30 (by decide) ?_
      exact hT
    · replace hT := hTf (Decidable.not_not.mp c4)
      refine g_iconst (npc := 22) dX11_burn_21 rfl ?_
      refine g_goto (npc := 26) dX11_burn_22 (by decide) ?_
      obtain ⟨h7, hT⟩ := hT
      replace hT := hT _ rfl
      refine g_iast (npc := 27) dX11_burn_26 rfl arSM_7 h7  ?_
      refine g_iinc (npc := 30) (y := (x3 + 1)) (l' := [(0, .ref 0), (1, .ref k1), (2, iV x2), (3, iV (x3 + 1))]) dX11_burn_27 rfl (by decide) rfl (by omega) rfl ?_
      refine g_goto (npc := 2) dX11_burn_30 (by decide) ?_
      exact hT
set_option maxRecDepth 20000 in
theorem b_Mo_burn_38 {Q : Sto → Prop} {k1 : Nat} {x2 : Int} {x3 : Int} {x4 : Int} (hk1 : ar SM k1 1 8) {s : Sto} (hT : (-2147483648 ≤ x3 ∧ x3 < 2147483648) ∧ ((x3 = 0) → Q s) ∧ ((¬ x3 = 0) → H_Mo_burn_47 Q k1 x2 0 x4 0 s)) : H_Mo_burn_38 Q k1 x2 x3 x4 s := by
  refine g_iload_n (npc := 39) dX11_burn_38 rfl rfl rfl ?_
  obtain ⟨h9, hTt, hTf⟩ := hT
  refine g_if_eq (npc := 42) (tgt := 187) dX11_burn_39 rfl (by decide) h9 (fun c10 => ?_) (fun c10 => ?_)
  · replace hT := hTt c10
    exact g_ret dX11_burn_187 rfl ⟨rfl, hT⟩
  · replace hT := hTf c10
    refine g_iconst (npc := 43) dX11_burn_42 rfl ?_
    refine g_istore_n (npc := 44) (l' := [(0, .ref 0), (1, .ref k1), (2, iV x2), (3, iV 0), (4, iV x4)]) dX11_burn_43 rfl rfl (by decide) rfl ?_
    refine g_iconst (npc := 45) dX11_burn_44 rfl ?_
    refine g_istore (npc := 47) (l' := [(0, .ref 0), (1, .ref k1), (2, iV x2), (3, iV 0), (4, iV x4), (5, iV 0)]) dX11_burn_45 rfl (by decide) rfl ?_
    exact hT
set_option maxRecDepth 20000 in
theorem b_Mo_burn_47 {Q : Sto → Prop} {k1 : Nat} {x2 : Int} {x3 : Int} {x4 : Int} {x5 : Int} (hk1 : ar SM k1 1 8) {s : Sto} (hT : ((-2147483648 ≤ x5 ∧ x5 < 2147483648) ∧ -2147483648 ≤ (s 0 0) ∧ (s 0 0) < 2147483648) ∧ (((s 0 0) ≤ x5) → H_Mo_burn_38 Q k1 x2 x3 (x4 + 1) s) ∧ ((x5 < (s 0 0)) → (0 ≤ x5 ∧ x5 < 8) ∧ (-2147483648 ≤ (s 7 (Int.toNat x5)) ∧ (s 7 (Int.toNat x5)) < 2147483648) ∧ ((0 ≤ (s 7 (Int.toNat x5))) → H_Mo_burn_47 Q k1 x2 x3 x4 (x5 + 1) s) ∧ (((s 7 (Int.toNat x5)) < 0) → H_Mo_burn_72 Q k1 x2 x3 x4 x5 0 0 s))) : H_Mo_burn_47 Q k1 x2 x3 x4 x5 s := by
  refine g_iload (npc := 49) dX11_burn_47 rfl rfl ?_
  refine g_aload_n (npc := 50) dX11_burn_49 rfl rfl rfl ?_
  refine gf_Mo_77 (npc := 53) dX11_burn_50 rfl rfl ?_
  obtain ⟨h11, hTt, hTf⟩ := hT
  refine g_icmp_ge (npc := 56) (tgt := 181) dX11_burn_53 rfl (by decide) h11 (fun c12 => ?_) (fun c12 => ?_)
  · replace hT := hTt c12
    refine g_iinc (npc := 184) (y := (x4 + 1)) (l' := [(0, .ref 0), (1, .ref k1), (2, iV x2), (3, iV x3), (4, iV (x4 + 1)), (5, iV x5)]) dX11_burn_181 rfl (by decide) rfl (by omega) rfl ?_
    refine g_goto (npc := 38) dX11_burn_184 (by decide) ?_
    refine Go.lsub [0, 1, 2, 3, 4] rfl ?_
    exact hT
  · replace hT := hTf (Int.not_le.mp c12)
    refine g_aload_n (npc := 57) dX11_burn_56 rfl rfl rfl ?_
    refine gf_Mo_29 (npc := 60) dX11_burn_57 rfl rfl ?_
    refine g_iload (npc := 62) dX11_burn_60 rfl rfl ?_
    obtain ⟨h13, hT⟩ := hT
    refine g_iald (npc := 63) dX11_burn_62 rfl arSM_7 h13 ?_
    obtain ⟨h14, hTt, hTf⟩ := hT
    refine g_if_ge (npc := 66) (tgt := 175) dX11_burn_63 rfl (by decide) h14 (fun c15 => ?_) (fun c15 => ?_)
    · replace hT := hTt c15
      refine g_iinc (npc := 178) (y := (x5 + 1)) (l' := [(0, .ref 0), (1, .ref k1), (2, iV x2), (3, iV x3), (4, iV x4), (5, iV (x5 + 1))]) dX11_burn_175 rfl (by decide) rfl (by omega) rfl ?_
      refine g_goto (npc := 47) dX11_burn_178 (by decide) ?_
      exact hT
    · replace hT := hTf (Int.not_le.mp c15)
      refine g_iconst (npc := 67) dX11_burn_66 rfl ?_
      refine g_istore (npc := 69) (l' := [(0, .ref 0), (1, .ref k1), (2, iV x2), (3, iV x3), (4, iV x4), (5, iV x5), (6, iV 0)]) dX11_burn_67 rfl (by decide) rfl ?_
      refine g_iconst (npc := 70) dX11_burn_69 rfl ?_
      refine g_istore (npc := 72) (l' := [(0, .ref 0), (1, .ref k1), (2, iV x2), (3, iV x3), (4, iV x4), (5, iV x5), (6, iV 0), (7, iV 0)]) dX11_burn_70 rfl (by decide) rfl ?_
      exact hT
set_option maxRecDepth 20000 in
theorem b_Mo_burn_72 {Q : Sto → Prop} {k1 : Nat} {x2 : Int} {x3 : Int} {x4 : Int} {x5 : Int} {x6 : Int} {x7 : Int} (hk1 : ar SM k1 1 8) {s : Sto} (hT : ((-2147483648 ≤ x7 ∧ x7 < 2147483648) ∧ -2147483648 ≤ (s 0 0) ∧ (s 0 0) < 2147483648) ∧ (((s 0 0) ≤ x7) → (-2147483648 ≤ x2 ∧ x2 < 2147483648) ∧ ((x2 = 0) → (0 ≤ x5 ∧ x5 < 8) ∧ (0 ≤ x5 ∧ x5 < 8) ∧ ((-2147483648 ≤ ((s k1 (Int.toNat x5)) + x6) ∧ ((s k1 (Int.toNat x5)) + x6) < 2147483648) ∧ -2147483648 ≤ (s 4 (Int.toNat x5)) ∧ (s 4 (Int.toNat x5)) < 2147483648) ∧ ((((s k1 (Int.toNat x5)) + x6) < (s 4 (Int.toNat x5))) → H_Mo_burn_47 Q k1 x2 x3 x4 (x5 + 1) s) ∧ (((s 4 (Int.toNat x5)) ≤ ((s k1 (Int.toNat x5)) + x6)) → (0 ≤ x5 ∧ x5 < 8) ∧ ∀ s25, s25 = up s 7 (Int.toNat x5) x4 → H_Mo_burn_47 Q k1 x2 1 x4 (x5 + 1) s25)) ∧ ((¬ x2 = 0) → (0 ≤ x5 ∧ x5 < 8) ∧ ((-2147483648 ≤ x6 ∧ x6 < 2147483648) ∧ -2147483648 ≤ (s k1 (Int.toNat x5)) ∧ (s k1 (Int.toNat x5)) < 2147483648) ∧ ((x6 ≤ (s k1 (Int.toNat x5))) → H_Mo_burn_47 Q k1 x2 x3 x4 (x5 + 1) s) ∧ (((s k1 (Int.toNat x5)) < x6) → (0 ≤ x5 ∧ x5 < 8) ∧ ∀ s30, s30 = up s 7 (Int.toNat x5) x4 → H_Mo_burn_47 Q k1 x2 1 x4 (x5 + 1) s30))) ∧ ((x7 < (s 0 0)) → (0 ≤ x7 ∧ x7 < 8) ∧ (-2147483648 ≤ (s 7 (Int.toNat x7)) ∧ (s 7 (Int.toNat x7)) < 2147483648) ∧ (((s 7 (Int.toNat x7)) < 0) → H_Mo_burn_72 Q k1 x2 x3 x4 x5 (x6 + 0) (x7 + 1) s) ∧ ((0 ≤ (s 7 (Int.toNat x7))) → (0 ≤ x7 ∧ x7 < 8) ∧ ((-2147483648 ≤ (s 7 (Int.toNat x7)) ∧ (s 7 (Int.toNat x7)) < 2147483648) ∧ -2147483648 ≤ x4 ∧ x4 < 2147483648) ∧ ((x4 ≤ (s 7 (Int.toNat x7))) → H_Mo_burn_72 Q k1 x2 x3 x4 x5 (x6 + 0) (x7 + 1) s) ∧ (((s 7 (Int.toNat x7)) < x4) → (0 ≤ ((8 * x5) + x7) ∧ ((8 * x5) + x7) < 64) ∧ H_Mo_burn_72 Q k1 x2 x3 x4 x5 (x6 + (s 3 (Int.toNat ((8 * x5) + x7)))) (x7 + 1) s)))) : H_Mo_burn_72 Q k1 x2 x3 x4 x5 x6 x7 s := by
  refine g_iload (npc := 74) dX11_burn_72 rfl rfl ?_
  refine g_aload_n (npc := 75) dX11_burn_74 rfl rfl rfl ?_
  refine gf_Mo_77 (npc := 78) dX11_burn_75 rfl rfl ?_
  obtain ⟨h16, hTt, hTf⟩ := hT
  refine g_icmp_ge (npc := 81) (tgt := 131) dX11_burn_78 rfl (by decide) h16 (fun c17 => ?_) (fun c17 => ?_)
  · replace hT := hTt c17
    refine g_iload_n (npc := 132) dX11_burn_131 rfl rfl rfl ?_
    obtain ⟨h18, hTt, hTf⟩ := hT
    refine g_if_eq (npc := 135) (tgt := 147) dX11_burn_132 rfl (by decide) h18 (fun c19 => ?_) (fun c19 => ?_)
    · replace hT := hTt c19
      refine g_aload_n (npc := 148) dX11_burn_147 rfl rfl rfl ?_
      refine g_iload (npc := 150) dX11_burn_148 rfl rfl ?_
      obtain ⟨h20, hT⟩ := hT
      refine g_iald (npc := 151) dX11_burn_150 rfl hk1 h20 ?_
      refine g_iload (npc := 153) dX11_burn_151 rfl rfl ?_
      refine g_iadd (npc := 154) dX11_burn_153 rfl ?_
      refine g_aload_n (npc := 155) dX11_burn_154 rfl rfl rfl ?_
      refine gf_Mo_19 (npc := 158) dX11_burn_155 rfl rfl ?_
      refine g_iload (npc := 160) dX11_burn_158 rfl rfl ?_
      obtain ⟨h21, hT⟩ := hT
      refine g_iald (npc := 161) dX11_burn_160 rfl arSM_4 h21 ?_
      obtain ⟨h22, hTt, hTf⟩ := hT
      refine g_icmp_lt (npc := 164) (tgt := 175) dX11_burn_161 rfl (by decide) h22 (fun c23 => ?_) (fun c23 => ?_)
      · replace hT := hTt c23
        refine g_iinc (npc := 178) (y := (x5 + 1)) (l' := [(0, .ref 0), (1, .ref k1), (2, iV x2), (3, iV x3), (4, iV x4), (5, iV (x5 + 1)), (6, iV x6), (7, iV x7)]) dX11_burn_175 rfl (by decide) rfl (by omega) rfl ?_
        refine g_goto (npc := 47) dX11_burn_178 (by decide) ?_
        refine Go.lsub [0, 1, 2, 3, 4, 5] rfl ?_
        exact hT
      · replace hT := hTf (Int.not_lt.mp c23)
        refine g_aload_n (npc := 165) dX11_burn_164 rfl rfl rfl ?_
        refine gf_Mo_29 (npc := 168) dX11_burn_165 rfl rfl ?_
        refine g_iload (npc := 170) dX11_burn_168 rfl rfl ?_
        refine g_iload (npc := 172) dX11_burn_170 rfl rfl ?_
        obtain ⟨h24, hT⟩ := hT
        replace hT := hT _ rfl
        refine g_iast (npc := 173) dX11_burn_172 rfl arSM_7 h24  ?_
        refine g_iconst (npc := 174) dX11_burn_173 rfl ?_
        refine g_istore_n (npc := 175) (l' := [(0, .ref 0), (1, .ref k1), (2, iV x2), (3, iV 1), (4, iV x4), (5, iV x5), (6, iV x6), (7, iV x7)]) dX11_burn_174 rfl rfl (by decide) rfl ?_
        refine g_iinc (npc := 178) (y := (x5 + 1)) (l' := [(0, .ref 0), (1, .ref k1), (2, iV x2), (3, iV 1), (4, iV x4), (5, iV (x5 + 1)), (6, iV x6), (7, iV x7)]) dX11_burn_175 rfl (by decide) rfl (by omega) rfl ?_
        refine g_goto (npc := 47) dX11_burn_178 (by decide) ?_
        refine Go.lsub [0, 1, 2, 3, 4, 5] rfl ?_
        exact hT
    · replace hT := hTf c19
      refine g_iload (npc := 137) dX11_burn_135 rfl rfl ?_
      refine g_aload_n (npc := 138) dX11_burn_137 rfl rfl rfl ?_
      refine g_iload (npc := 140) dX11_burn_138 rfl rfl ?_
      obtain ⟨h26, hT⟩ := hT
      refine g_iald (npc := 141) dX11_burn_140 rfl hk1 h26 ?_
      obtain ⟨h27, hTt, hTf⟩ := hT
      refine g_icmp_le (npc := 144) (tgt := 175) dX11_burn_141 rfl (by decide) h27 (fun c28 => ?_) (fun c28 => ?_)
      · replace hT := hTt c28
        refine g_iinc (npc := 178) (y := (x5 + 1)) (l' := [(0, .ref 0), (1, .ref k1), (2, iV x2), (3, iV x3), (4, iV x4), (5, iV (x5 + 1)), (6, iV x6), (7, iV x7)]) dX11_burn_175 rfl (by decide) rfl (by omega) rfl ?_
        refine g_goto (npc := 47) dX11_burn_178 (by decide) ?_
        refine Go.lsub [0, 1, 2, 3, 4, 5] rfl ?_
        exact hT
      · replace hT := hTf (Int.not_le.mp c28)
        refine g_goto (npc := 164) dX11_burn_144 (by decide) ?_
        refine g_aload_n (npc := 165) dX11_burn_164 rfl rfl rfl ?_
        refine gf_Mo_29 (npc := 168) dX11_burn_165 rfl rfl ?_
        refine g_iload (npc := 170) dX11_burn_168 rfl rfl ?_
        refine g_iload (npc := 172) dX11_burn_170 rfl rfl ?_
        obtain ⟨h29, hT⟩ := hT
        replace hT := hT _ rfl
        refine g_iast (npc := 173) dX11_burn_172 rfl arSM_7 h29  ?_
        refine g_iconst (npc := 174) dX11_burn_173 rfl ?_
        refine g_istore_n (npc := 175) (l' := [(0, .ref 0), (1, .ref k1), (2, iV x2), (3, iV 1), (4, iV x4), (5, iV x5), (6, iV x6), (7, iV x7)]) dX11_burn_174 rfl rfl (by decide) rfl ?_
        refine g_iinc (npc := 178) (y := (x5 + 1)) (l' := [(0, .ref 0), (1, .ref k1), (2, iV x2), (3, iV 1), (4, iV x4), (5, iV (x5 + 1)), (6, iV x6), (7, iV x7)]) dX11_burn_175 rfl (by decide) rfl (by omega) rfl ?_
        refine g_goto (npc := 47) dX11_burn_178 (by decide) ?_
        refine Go.lsub [0, 1, 2, 3, 4, 5] rfl ?_
        exact hT
  · replace hT := hTf (Int.not_le.mp c17)
    refine g_iload (npc := 83) dX11_burn_81 rfl rfl ?_
    refine g_aload_n (npc := 84) dX11_burn_83 rfl rfl rfl ?_
    refine gf_Mo_29 (npc := 87) dX11_burn_84 rfl rfl ?_
    refine g_iload (npc := 89) dX11_burn_87 rfl rfl ?_
    obtain ⟨h31, hT⟩ := hT
    refine g_iald (npc := 90) dX11_burn_89 rfl arSM_7 h31 ?_
    obtain ⟨h32, hTt, hTf⟩ := hT
    refine g_if_lt (npc := 93) (tgt := 121) dX11_burn_90 rfl (by decide) h32 (fun c33 => ?_) (fun c33 => ?_)
    · replace hT := hTt c33
      refine g_iconst (npc := 122) dX11_burn_121 rfl ?_
      refine g_iadd (npc := 123) dX11_burn_122 rfl ?_
      refine g_istore (npc := 125) (l' := [(0, .ref 0), (1, .ref k1), (2, iV x2), (3, iV x3), (4, iV x4), (5, iV x5), (6, iV (x6 + 0)), (7, iV x7)]) dX11_burn_123 rfl (by decide) rfl ?_
      refine g_iinc (npc := 128) (y := (x7 + 1)) (l' := [(0, .ref 0), (1, .ref k1), (2, iV x2), (3, iV x3), (4, iV x4), (5, iV x5), (6, iV (x6 + 0)), (7, iV (x7 + 1))]) dX11_burn_125 rfl (by decide) rfl (by omega) rfl ?_
      refine g_goto (npc := 72) dX11_burn_128 (by decide) ?_
      exact hT
    · replace hT := hTf (Int.not_lt.mp c33)
      refine g_aload_n (npc := 94) dX11_burn_93 rfl rfl rfl ?_
      refine gf_Mo_29 (npc := 97) dX11_burn_94 rfl rfl ?_
      refine g_iload (npc := 99) dX11_burn_97 rfl rfl ?_
      obtain ⟨h34, hT⟩ := hT
      refine g_iald (npc := 100) dX11_burn_99 rfl arSM_7 h34 ?_
      refine g_iload (npc := 102) dX11_burn_100 rfl rfl ?_
      obtain ⟨h35, hTt, hTf⟩ := hT
      refine g_icmp_ge (npc := 105) (tgt := 121) dX11_burn_102 rfl (by decide) h35 (fun c36 => ?_) (fun c36 => ?_)
      · replace hT := hTt c36
        refine g_iconst (npc := 122) dX11_burn_121 rfl ?_
        refine g_iadd (npc := 123) dX11_burn_122 rfl ?_
        refine g_istore (npc := 125) (l' := [(0, .ref 0), (1, .ref k1), (2, iV x2), (3, iV x3), (4, iV x4), (5, iV x5), (6, iV (x6 + 0)), (7, iV x7)]) dX11_burn_123 rfl (by decide) rfl ?_
        refine g_iinc (npc := 128) (y := (x7 + 1)) (l' := [(0, .ref 0), (1, .ref k1), (2, iV x2), (3, iV x3), (4, iV x4), (5, iV x5), (6, iV (x6 + 0)), (7, iV (x7 + 1))]) dX11_burn_125 rfl (by decide) rfl (by omega) rfl ?_
        refine g_goto (npc := 72) dX11_burn_128 (by decide) ?_
        exact hT
      · replace hT := hTf (Int.not_le.mp c36)
        refine g_aload_n (npc := 106) dX11_burn_105 rfl rfl rfl ?_
        refine gf_Mo_16 (npc := 109) dX11_burn_106 rfl rfl ?_
        refine g_bipush (npc := 111) (x := 8) dX11_burn_109 rfl (by decide) ?_
        refine g_iload (npc := 113) dX11_burn_111 rfl rfl ?_
        refine g_imul (npc := 114) dX11_burn_113 rfl ?_
        refine g_iload (npc := 116) dX11_burn_114 rfl rfl ?_
        refine g_iadd (npc := 117) dX11_burn_116 rfl ?_
        obtain ⟨h37, hT⟩ := hT
        refine g_iald (npc := 118) dX11_burn_117 rfl arSM_3 h37 ?_
        refine g_goto (npc := 122) dX11_burn_118 (by decide) ?_
        refine g_iadd (npc := 123) dX11_burn_122 rfl ?_
        refine g_istore (npc := 125) (l' := [(0, .ref 0), (1, .ref k1), (2, iV x2), (3, iV x3), (4, iV x4), (5, iV x5), (6, iV (x6 + (s 3 (Int.toNat ((8 * x5) + x7))))), (7, iV x7)]) dX11_burn_123 rfl (by decide) rfl ?_
        refine g_iinc (npc := 128) (y := (x7 + 1)) (l' := [(0, .ref 0), (1, .ref k1), (2, iV x2), (3, iV x3), (4, iV x4), (5, iV x5), (6, iV (x6 + (s 3 (Int.toNat ((8 * x5) + x7))))), (7, iV (x7 + 1))]) dX11_burn_125 rfl (by decide) rfl (by omega) rfl ?_
        refine g_goto (npc := 72) dX11_burn_128 (by decide) ?_
        exact hT
set_option maxRecDepth 20000 in
theorem e_Mo_burn {k1 : Nat} {x2 : Int} (hk1 : ar SM k1 1 8) {s : Sto} {Q : Sto → Prop} (hT : H_Mo_burn_2 Q k1 x2 0 s) : K_Mo_burn k1 x2 s Q := by
  refine Sp.body (by decide) (Nat.le_of_ble_eq_true rfl) ?_
  show Go SM M_Mo_burn (fV0 Q) 0 [(0, .ref 0), (1, .ref k1), (2, iV x2)] [] s
  refine g_iconst (npc := 1) dX11_burn_0 rfl ?_
  refine g_istore_n (npc := 2) (l' := [(0, .ref 0), (1, .ref k1), (2, iV x2), (3, iV 0)]) dX11_burn_1 rfl rfl (by decide) rfl ?_
  exact hT
abbrev H_Mo_allBurn_4 (Q : Int → Sto → Prop) (x1 : Int) (x2 : Int) (s : Sto) : Prop := Go SM M_Mo_allBurn (fI Q) 4 [(0, .ref 0), (1, iV x1), (2, iV x2)] [] s
set_option maxRecDepth 20000 in
theorem b_Mo_allBurn_4 {Q : Int → Sto → Prop} {x1 : Int} {x2 : Int} {s : Sto} (hT : ((-2147483648 ≤ x2 ∧ x2 < 2147483648) ∧ -2147483648 ≤ (s 0 0) ∧ (s 0 0) < 2147483648) ∧ (((s 0 0) ≤ x2) → (x1 = 0 ∨ x1 = 1) ∧ Q x1 s) ∧ ((x2 < (s 0 0)) → (-2147483648 ≤ x1 ∧ x1 < 2147483648) ∧ ((x1 = 0) → H_Mo_allBurn_4 Q 0 (x2 + 1) s) ∧ ((¬ x1 = 0) → (0 ≤ x2 ∧ x2 < 8) ∧ (-2147483648 ≤ (s 7 (Int.toNat x2)) ∧ (s 7 (Int.toNat x2)) < 2147483648) ∧ (((s 7 (Int.toNat x2)) < 0) → H_Mo_allBurn_4 Q 0 (x2 + 1) s) ∧ ((0 ≤ (s 7 (Int.toNat x2))) → H_Mo_allBurn_4 Q 1 (x2 + 1) s)))) : H_Mo_allBurn_4 Q x1 x2 s := by
  refine g_iload_n (npc := 5) dX11_allBurn_4 rfl rfl rfl ?_
  refine g_aload_n (npc := 6) dX11_allBurn_5 rfl rfl rfl ?_
  refine gf_Mo_77 (npc := 9) dX11_allBurn_6 rfl rfl ?_
  obtain ⟨h1, hTt, hTf⟩ := hT
  refine g_icmp_ge (npc := 12) (tgt := 37) dX11_allBurn_9 rfl (by decide) h1 (fun c2 => ?_) (fun c2 => ?_)
  · replace hT := hTt c2
    refine g_iload_n (npc := 38) dX11_allBurn_37 rfl rfl rfl ?_
    obtain ⟨h3, hT⟩ := hT
    exact g_iret dX11_allBurn_38 rfl (nar_zv h3) ⟨_, rfl, hT⟩
  · replace hT := hTf (Int.not_le.mp c2)
    refine g_iload_n (npc := 13) dX11_allBurn_12 rfl rfl rfl ?_
    obtain ⟨h4, hTt, hTf⟩ := hT
    refine g_if_eq (npc := 16) (tgt := 29) dX11_allBurn_13 rfl (by decide) h4 (fun c5 => ?_) (fun c5 => ?_)
    · replace hT := hTt c5
      refine g_iconst (npc := 30) dX11_allBurn_29 rfl ?_
      refine g_istore_n (npc := 31) (l' := [(0, .ref 0), (1, iV 0), (2, iV x2)]) dX11_allBurn_30 rfl rfl (by decide) rfl ?_
      refine g_iinc (npc := 34) (y := (x2 + 1)) (l' := [(0, .ref 0), (1, iV 0), (2, iV (x2 + 1))]) dX11_allBurn_31 rfl (by decide) rfl (by omega) rfl ?_
      refine g_goto (npc := 4) dX11_allBurn_34 (by decide) ?_
      exact hT
    · replace hT := hTf c5
      refine g_aload_n (npc := 17) dX11_allBurn_16 rfl rfl rfl ?_
      refine gf_Mo_29 (npc := 20) dX11_allBurn_17 rfl rfl ?_
      refine g_iload_n (npc := 21) dX11_allBurn_20 rfl rfl rfl ?_
      obtain ⟨h6, hT⟩ := hT
      refine g_iald (npc := 22) dX11_allBurn_21 rfl arSM_7 h6 ?_
      obtain ⟨h7, hTt, hTf⟩ := hT
      refine g_if_lt (npc := 25) (tgt := 29) dX11_allBurn_22 rfl (by decide) h7 (fun c8 => ?_) (fun c8 => ?_)
      · replace hT := hTt c8
        refine g_iconst (npc := 30) dX11_allBurn_29 rfl ?_
        refine g_istore_n (npc := 31) (l' := [(0, .ref 0), (1, iV 0), (2, iV x2)]) dX11_allBurn_30 rfl rfl (by decide) rfl ?_
        refine g_iinc (npc := 34) (y := (x2 + 1)) (l' := [(0, .ref 0), (1, iV 0), (2, iV (x2 + 1))]) dX11_allBurn_31 rfl (by decide) rfl (by omega) rfl ?_
        refine g_goto (npc := 4) dX11_allBurn_34 (by decide) ?_
        exact hT
      · replace hT := hTf (Int.not_lt.mp c8)
        refine g_iconst (npc := 26) dX11_allBurn_25 rfl ?_
        refine g_goto (npc := 30) dX11_allBurn_26 (by decide) ?_
        refine g_istore_n (npc := 31) (l' := [(0, .ref 0), (1, iV 1), (2, iV x2)]) dX11_allBurn_30 rfl rfl (by decide) rfl ?_
        refine g_iinc (npc := 34) (y := (x2 + 1)) (l' := [(0, .ref 0), (1, iV 1), (2, iV (x2 + 1))]) dX11_allBurn_31 rfl (by decide) rfl (by omega) rfl ?_
        refine g_goto (npc := 4) dX11_allBurn_34 (by decide) ?_
        exact hT
set_option maxRecDepth 20000 in
theorem e_Mo_allBurn {s : Sto} {Q : Int → Sto → Prop} (hT : H_Mo_allBurn_4 Q 1 0 s) : K_Mo_allBurn s Q := by
  refine Sp.body (by decide) (Nat.le_of_ble_eq_true rfl) ?_
  show Go SM M_Mo_allBurn (fI Q) 0 [(0, .ref 0)] [] s
  refine g_iconst (npc := 1) dX11_allBurn_0 rfl ?_
  refine g_istore_n (npc := 2) (l' := [(0, .ref 0), (1, iV 1)]) dX11_allBurn_1 rfl rfl (by decide) rfl ?_
  refine g_iconst (npc := 3) dX11_allBurn_2 rfl ?_
  refine g_istore_n (npc := 4) (l' := [(0, .ref 0), (1, iV 1), (2, iV 0)]) dX11_allBurn_3 rfl rfl (by decide) rfl ?_
  exact hT
abbrev H_Mo_fireSet_2 (Q : Sto → Prop) (k1 : Nat) (x2 : Int) (s : Sto) : Prop := Go SM M_Mo_fireSet (fV0 Q) 2 [(0, .ref 0), (1, .ref k1), (2, iV x2)] [] s
abbrev H_Mo_fireSet_12 (Q : Sto → Prop) (k1 : Nat) (x2 : Int) (x3 : Int) (s : Sto) : Prop := Go SM M_Mo_fireSet (fV0 Q) 12 [(0, .ref 0), (1, .ref k1), (2, iV x2), (3, iV x3)] [] s
set_option maxRecDepth 20000 in
theorem b_Mo_fireSet_2 {Q : Sto → Prop} {k1 : Nat} {x2 : Int} (hk1 : ar SM k1 1 8) {s : Sto} (hT : ((-2147483648 ≤ x2 ∧ x2 < 2147483648) ∧ -2147483648 ≤ (s 0 0) ∧ (s 0 0) < 2147483648) ∧ (((s 0 0) ≤ x2) → Q s) ∧ ((x2 < (s 0 0)) → H_Mo_fireSet_12 Q k1 x2 0 s)) : H_Mo_fireSet_2 Q k1 x2 s := by
  refine g_iload_n (npc := 3) dX11_fireSet_2 rfl rfl rfl ?_
  refine g_aload_n (npc := 4) dX11_fireSet_3 rfl rfl rfl ?_
  refine gf_Mo_77 (npc := 7) dX11_fireSet_4 rfl rfl ?_
  obtain ⟨h1, hTt, hTf⟩ := hT
  refine g_icmp_ge (npc := 10) (tgt := 96) dX11_fireSet_7 rfl (by decide) h1 (fun c2 => ?_) (fun c2 => ?_)
  · replace hT := hTt c2
    exact g_ret dX11_fireSet_96 rfl ⟨rfl, hT⟩
  · replace hT := hTf (Int.not_le.mp c2)
    refine g_iconst (npc := 11) dX11_fireSet_10 rfl ?_
    refine g_istore_n (npc := 12) (l' := [(0, .ref 0), (1, .ref k1), (2, iV x2), (3, iV 0)]) dX11_fireSet_11 rfl rfl (by decide) rfl ?_
    exact hT
set_option maxRecDepth 20000 in
theorem b_Mo_fireSet_12 {Q : Sto → Prop} {k1 : Nat} {x2 : Int} {x3 : Int} (hk1 : ar SM k1 1 8) {s : Sto} (hT : ((-2147483648 ≤ x3 ∧ x3 < 2147483648) ∧ -2147483648 ≤ (s 0 0) ∧ (s 0 0) < 2147483648) ∧ (((s 0 0) ≤ x3) → H_Mo_fireSet_2 Q k1 (x2 + 1) s) ∧ ((x3 < (s 0 0)) → (0 ≤ x2 ∧ x2 < 8) ∧ (-2147483648 ≤ (s 7 (Int.toNat x2)) ∧ (s 7 (Int.toNat x2)) < 2147483648) ∧ ((0 ≤ (s 7 (Int.toNat x2))) → H_Mo_fireSet_2 Q k1 (x2 + 1) s) ∧ (((s 7 (Int.toNat x2)) < 0) → (0 ≤ x3 ∧ x3 < 8) ∧ (-2147483648 ≤ (s 7 (Int.toNat x3)) ∧ (s 7 (Int.toNat x3)) < 2147483648) ∧ (((s 7 (Int.toNat x3)) < 0) → H_Mo_fireSet_12 Q k1 x2 (x3 + 1) s) ∧ ((0 ≤ (s 7 (Int.toNat x3))) → (0 ≤ x2 ∧ x2 < 8) ∧ (0 ≤ ((8 * x2) + x3) ∧ ((8 * x2) + x3) < 64) ∧ (0 ≤ x2 ∧ x2 < 8) ∧ ∀ s14, s14 = up s k1 (Int.toNat x2) ((s k1 (Int.toNat x2)) - (s 3 (Int.toNat ((8 * x2) + x3)))) → (0 ≤ x3 ∧ x3 < 8) ∧ ((-2147483648 ≤ x3 ∧ x3 < 2147483648) ∧ -2147483648 ≤ (s14 0 2) ∧ (s14 0 2) < 2147483648) ∧ ((¬ x3 = (s14 0 2)) → (0 ≤ ((8 * x2) + x3) ∧ ((8 * x2) + x3) < 64) ∧ (0 ≤ x3 ∧ x3 < 8) ∧ ∀ s20, s20 = up s14 k1 (Int.toNat x3) ((s14 k1 (Int.toNat x3)) + (s14 3 (Int.toNat ((8 * x2) + x3)))) → H_Mo_fireSet_12 Q k1 x2 (x3 + 1) s20) ∧ ((x3 = (s14 0 2)) → (0 ≤ x3 ∧ x3 < 8) ∧ ∀ s22, s22 = up s14 k1 (Int.toNat x3) ((s14 k1 (Int.toNat x3)) + 0) → H_Mo_fireSet_12 Q k1 x2 (x3 + 1) s22))))) : H_Mo_fireSet_12 Q k1 x2 x3 s := by
  refine g_iload_n (npc := 13) dX11_fireSet_12 rfl rfl rfl ?_
  refine g_aload_n (npc := 14) dX11_fireSet_13 rfl rfl rfl ?_
  refine gf_Mo_77 (npc := 17) dX11_fireSet_14 rfl rfl ?_
  obtain ⟨h3, hTt, hTf⟩ := hT
  refine g_icmp_ge (npc := 20) (tgt := 90) dX11_fireSet_17 rfl (by decide) h3 (fun c4 => ?_) (fun c4 => ?_)
  · replace hT := hTt c4
    refine g_iinc (npc := 93) (y := (x2 + 1)) (l' := [(0, .ref 0), (1, .ref k1), (2, iV (x2 + 1)), (3, iV x3)]) dX11_fireSet_90 rfl (by decide) rfl (by omega) rfl ?_
    refine g_goto (npc := 2) dX11_fireSet_93 (by decide) ?_
    refine Go.lsub [0, 1, 2] rfl ?_
    exact hT
  · replace hT := hTf (Int.not_le.mp c4)
    refine g_aload_n (npc := 21) dX11_fireSet_20 rfl rfl rfl ?_
    refine gf_Mo_29 (npc := 24) dX11_fireSet_21 rfl rfl ?_
    refine g_iload_n (npc := 25) dX11_fireSet_24 rfl rfl rfl ?_
    obtain ⟨h5, hT⟩ := hT
    refine g_iald (npc := 26) dX11_fireSet_25 rfl arSM_7 h5 ?_
    obtain ⟨h6, hTt, hTf⟩ := hT
    refine g_if_ge (npc := 29) (tgt := 90) dX11_fireSet_26 rfl (by decide) h6 (fun c7 => ?_) (fun c7 => ?_)
    · replace hT := hTt c7
      refine g_iinc (npc := 93) (y := (x2 + 1)) (l' := [(0, .ref 0), (1, .ref k1), (2, iV (x2 + 1)), (3, iV x3)]) dX11_fireSet_90 rfl (by decide) rfl (by omega) rfl ?_
      refine g_goto (npc := 2) dX11_fireSet_93 (by decide) ?_
      refine Go.lsub [0, 1, 2] rfl ?_
      exact hT
    · replace hT := hTf (Int.not_le.mp c7)
      refine g_aload_n (npc := 30) dX11_fireSet_29 rfl rfl rfl ?_
      refine gf_Mo_29 (npc := 33) dX11_fireSet_30 rfl rfl ?_
      refine g_iload_n (npc := 34) dX11_fireSet_33 rfl rfl rfl ?_
      obtain ⟨h8, hT⟩ := hT
      refine g_iald (npc := 35) dX11_fireSet_34 rfl arSM_7 h8 ?_
      obtain ⟨h9, hTt, hTf⟩ := hT
      refine g_if_lt (npc := 38) (tgt := 84) dX11_fireSet_35 rfl (by decide) h9 (fun c10 => ?_) (fun c10 => ?_)
      · replace hT := hTt c10
        refine g_iinc (npc := 87) (y := (x3 + 1)) (l' := [(0, .ref 0), (1, .ref k1), (2, iV x2), (3, iV (x3 + 1))]) dX11_fireSet_84 rfl (by decide) rfl (by omega) rfl ?_
        refine g_goto (npc := 12) dX11_fireSet_87 (by decide) ?_
        exact hT
      · replace hT := hTf (Int.not_lt.mp c10)
        refine g_aload_n (npc := 39) dX11_fireSet_38 rfl rfl rfl ?_
        refine g_iload_n (npc := 40) dX11_fireSet_39 rfl rfl rfl ?_
        refine g_dup2 (npc := 41) dX11_fireSet_40 rfl rfl rfl ?_
        obtain ⟨h11, hT⟩ := hT
        refine g_iald (npc := 42) dX11_fireSet_41 rfl hk1 h11 ?_
        refine g_aload_n (npc := 43) dX11_fireSet_42 rfl rfl rfl ?_
        refine gf_Mo_16 (npc := 46) dX11_fireSet_43 rfl rfl ?_
        refine g_bipush (npc := 48) (x := 8) dX11_fireSet_46 rfl (by decide) ?_
        refine g_iload_n (npc := 49) dX11_fireSet_48 rfl rfl rfl ?_
        refine g_imul (npc := 50) dX11_fireSet_49 rfl ?_
        refine g_iload_n (npc := 51) dX11_fireSet_50 rfl rfl rfl ?_
        refine g_iadd (npc := 52) dX11_fireSet_51 rfl ?_
        obtain ⟨h12, hT⟩ := hT
        refine g_iald (npc := 53) dX11_fireSet_52 rfl arSM_3 h12 ?_
        refine g_isub (npc := 54) dX11_fireSet_53 rfl ?_
        obtain ⟨h13, hT⟩ := hT
        replace hT := hT _ rfl
        refine g_iast (npc := 55) dX11_fireSet_54 rfl hk1 h13  ?_
        refine g_aload_n (npc := 56) dX11_fireSet_55 rfl rfl rfl ?_
        refine g_iload_n (npc := 57) dX11_fireSet_56 rfl rfl rfl ?_
        refine g_dup2 (npc := 58) dX11_fireSet_57 rfl rfl rfl ?_
        obtain ⟨h15, hT⟩ := hT
        refine g_iald (npc := 59) dX11_fireSet_58 rfl hk1 h15 ?_
        refine g_iload_n (npc := 60) dX11_fireSet_59 rfl rfl rfl ?_
        refine g_aload_n (npc := 61) dX11_fireSet_60 rfl rfl rfl ?_
        refine gf_Mo_84 (npc := 64) dX11_fireSet_61 rfl rfl ?_
        obtain ⟨h16, hTt, hTf⟩ := hT
        refine g_icmp_ne (npc := 67) (tgt := 71) dX11_fireSet_64 rfl (by decide) h16 (fun c17 => ?_) (fun c17 => ?_)
        · replace hT := hTt c17
          refine g_aload_n (npc := 72) dX11_fireSet_71 rfl rfl rfl ?_
          refine gf_Mo_16 (npc := 75) dX11_fireSet_72 rfl rfl ?_
          refine g_bipush (npc := 77) (x := 8) dX11_fireSet_75 rfl (by decide) ?_
          refine g_iload_n (npc := 78) dX11_fireSet_77 rfl rfl rfl ?_
          refine g_imul (npc := 79) dX11_fireSet_78 rfl ?_
          refine g_iload_n (npc := 80) dX11_fireSet_79 rfl rfl rfl ?_
          refine g_iadd (npc := 81) dX11_fireSet_80 rfl ?_
          obtain ⟨h18, hT⟩ := hT
          refine g_iald (npc := 82) dX11_fireSet_81 rfl arSM_3 h18 ?_
          refine g_iadd (npc := 83) dX11_fireSet_82 rfl ?_
          obtain ⟨h19, hT⟩ := hT
          replace hT := hT _ rfl
          refine g_iast (npc := 84) dX11_fireSet_83 rfl hk1 h19  ?_
          refine g_iinc (npc := 87) (y := (x3 + 1)) (l' := [(0, .ref 0), (1, .ref k1), (2, iV x2), (3, iV (x3 + 1))]) dX11_fireSet_84 rfl (by decide) rfl (by omega) rfl ?_
          refine g_goto (npc := 12) dX11_fireSet_87 (by decide) ?_
          exact hT
        · replace hT := hTf (Decidable.not_not.mp c17)
          refine g_iconst (npc := 68) dX11_fireSet_67 rfl ?_
          refine g_goto (npc := 82) dX11_fireSet_68 (by decide) ?_
          refine g_iadd (npc := 83) dX11_fireSet_82 rfl ?_
          obtain ⟨h21, hT⟩ := hT
          replace hT := hT _ rfl
          refine g_iast (npc := 84) dX11_fireSet_83 rfl hk1 h21  ?_
          refine g_iinc (npc := 87) (y := (x3 + 1)) (l' := [(0, .ref 0), (1, .ref k1), (2, iV x2), (3, iV (x3 + 1))]) dX11_fireSet_84 rfl (by decide) rfl (by omega) rfl ?_
          refine g_goto (npc := 12) dX11_fireSet_87 (by decide) ?_
          exact hT
set_option maxRecDepth 20000 in
theorem e_Mo_fireSet {k1 : Nat} (hk1 : ar SM k1 1 8) {s : Sto} {Q : Sto → Prop} (hT : H_Mo_fireSet_2 Q k1 0 s) : K_Mo_fireSet k1 s Q := by
  refine Sp.body (by decide) (Nat.le_of_ble_eq_true rfl) ?_
  show Go SM M_Mo_fireSet (fV0 Q) 0 [(0, .ref 0), (1, .ref k1)] [] s
  refine g_iconst (npc := 1) dX11_fireSet_0 rfl ?_
  refine g_istore_n (npc := 2) (l' := [(0, .ref 0), (1, .ref k1), (2, iV 0)]) dX11_fireSet_1 rfl rfl (by decide) rfl ?_
  exact hT
abbrev H_Mo_lower_14 (Q : Int → Sto → Prop) (k1 : Nat) (x2 : Int) (s : Sto) : Prop := Go SM M_Mo_lower (fI Q) 14 [(0, .ref 0), (1, .ref k1), (2, iV x2)] [] s
set_option maxRecDepth 20000 in
theorem b_Mo_lower_14 {Q : Int → Sto → Prop} {k1 : Nat} {x2 : Int} (hk1 : ar SM k1 1 8) {s : Sto} (hT : ∃ Q11 : Int → Sto → Prop, K_Mo_allBurn s Q11 ∧ ∀ r14 s13, Q11 r14 s13 → (-2147483648 ≤ r14 ∧ r14 < 2147483648) ∧ ((¬ r14 = 0) → Q x2 s13) ∧ ((r14 = 0) → ∃ Q18 : Sto → Prop, K_Mo_fireSet k1 s13 Q18 ∧ ∀ s20, Q18 s20 → ∃ Q23 : Sto → Prop, K_Mo_burn k1 1 s20 Q23 ∧ ∀ s25, Q23 s25 → H_Mo_lower_14 Q k1 (x2 + 1) s25)) : H_Mo_lower_14 Q k1 x2 s := by
  refine g_aload_n (npc := 15) dX11_lower_14 rfl rfl rfl ?_
  obtain ⟨Q11, h12, hT⟩ := hT
  refine iv_Mo_156 (npc := 18) dX11_lower_15 rfl rfl (Nat.le_of_ble_eq_true rfl) (by decide) h12 (fun r14 s13 e15 => ?_)
  replace hT := hT r14 s13 e15
  obtain ⟨h16, hTt, hTf⟩ := hT
  refine g_if_ne (npc := 21) (tgt := 38) dX11_lower_18 rfl (by decide) h16 (fun c17 => ?_) (fun c17 => ?_)
  · replace hT := hTt c17
    refine g_iload_n (npc := 39) dX11_lower_38 rfl rfl rfl ?_
    exact g_iret dX11_lower_39 rfl rfl ⟨_, rfl, hT⟩
  · replace hT := hTf (Decidable.not_not.mp c17)
    refine g_aload_n (npc := 22) dX11_lower_21 rfl rfl rfl ?_
    refine g_aload_n (npc := 23) dX11_lower_22 rfl rfl rfl ?_
    obtain ⟨Q18, h19, hT⟩ := hT
    refine iv_Mo_163 (npc := 26) dX11_lower_23 rfl rfl (Nat.le_of_ble_eq_true rfl) (by decide) h19 (fun s20 e22 => ?_)
    replace hT := hT s20 e22
    refine g_iinc (npc := 29) (y := (x2 + 1)) (l' := [(0, .ref 0), (1, .ref k1), (2, iV (x2 + 1))]) dX11_lower_26 rfl (by decide) rfl (by omega) rfl ?_
    refine g_aload_n (npc := 30) dX11_lower_29 rfl rfl rfl ?_
    refine g_aload_n (npc := 31) dX11_lower_30 rfl rfl rfl ?_
    refine g_iconst (npc := 32) dX11_lower_31 rfl ?_
    obtain ⟨Q23, h24, hT⟩ := hT
    refine iv_Mo_152 (npc := 35) dX11_lower_32 rfl rfl (Nat.le_of_ble_eq_true rfl) (by decide) h24 (fun s25 e27 => ?_)
    replace hT := hT s25 e27
    refine g_goto (npc := 14) dX11_lower_35 (by decide) ?_
    exact hT
set_option maxRecDepth 20000 in
theorem e_Mo_lower {k1 : Nat} (hk1 : ar SM k1 1 8) {s : Sto} {Q : Int → Sto → Prop} (hT : ∃ Q1 : Int → Sto → Prop, K_Mo_settle k1 s Q1 ∧ ∀ r4 s3, Q1 r4 s3 → ∃ Q6 : Sto → Prop, K_Mo_burn k1 1 s3 Q6 ∧ ∀ s8, Q6 s8 → H_Mo_lower_14 Q k1 0 s8) : K_Mo_lower k1 s Q := by
  refine Sp.body (by decide) (Nat.le_of_ble_eq_true rfl) ?_
  show Go SM M_Mo_lower (fI Q) 0 [(0, .ref 0), (1, .ref k1)] [] s
  refine g_aload_n (npc := 1) dX11_lower_0 rfl rfl rfl ?_
  refine g_aload_n (npc := 2) dX11_lower_1 rfl rfl rfl ?_
  obtain ⟨Q1, h2, hT⟩ := hT
  refine iv_Mo_144 (npc := 5) dX11_lower_2 rfl rfl (Nat.le_of_ble_eq_true rfl) (by decide) h2 (fun r4 s3 e5 => ?_)
  replace hT := hT r4 s3 e5
  refine g_pop (npc := 6) dX11_lower_5 rfl rfl ?_
  refine g_iconst (npc := 7) dX11_lower_6 rfl ?_
  refine g_istore_n (npc := 8) (l' := [(0, .ref 0), (1, .ref k1), (2, iV 0)]) dX11_lower_7 rfl rfl (by decide) rfl ?_
  refine g_aload_n (npc := 9) dX11_lower_8 rfl rfl rfl ?_
  refine g_aload_n (npc := 10) dX11_lower_9 rfl rfl rfl ?_
  refine g_iconst (npc := 11) dX11_lower_10 rfl ?_
  obtain ⟨Q6, h7, hT⟩ := hT
  refine iv_Mo_152 (npc := 14) dX11_lower_11 rfl rfl (Nat.le_of_ble_eq_true rfl) (by decide) h7 (fun s8 e10 => ?_)
  replace hT := hT s8 e10
  exact hT
set_option maxRecDepth 20000 in
theorem e_Mo_reduce {s : Sto} {Q : Int → Sto → Prop} (hT : ∃ Q1 : Int → Sto → Prop, K_Mo_isConnected s Q1 ∧ ∀ r4 s3, Q1 r4 s3 → (-2147483648 ≤ r4 ∧ r4 < 2147483648) ∧ ((¬ r4 = 0) → ∃ Q8 : Sto → Prop, K_Mo_keepState s3 Q8 ∧ ∀ s10, Q8 s10 → ∃ Q13 : Int → Sto → Prop, K_Mo_lower 5 s10 Q13 ∧ ∀ r16 s15, Q13 r16 s15 → Q r16 s15) ∧ ((r4 = 0) → Q (-10003) s3)) : K_Mo_reduce s Q := by
  refine Sp.body (by decide) (Nat.le_of_ble_eq_true rfl) ?_
  show Go SM M_Mo_reduce (fI Q) 0 [(0, .ref 0)] [] s
  refine g_aload_n (npc := 1) dX11_reduce_0 rfl rfl rfl ?_
  obtain ⟨Q1, h2, hT⟩ := hT
  refine iv_Mo_119 (npc := 4) dX11_reduce_1 rfl rfl (Nat.le_of_ble_eq_true rfl) (by decide) h2 (fun r4 s3 e5 => ?_)
  replace hT := hT r4 s3 e5
  obtain ⟨h6, hTt, hTf⟩ := hT
  refine g_if_ne (npc := 7) (tgt := 11) dX11_reduce_4 rfl (by decide) h6 (fun c7 => ?_) (fun c7 => ?_)
  · replace hT := hTt c7
    refine g_aload_n (npc := 12) dX11_reduce_11 rfl rfl rfl ?_
    obtain ⟨Q8, h9, hT⟩ := hT
    refine iv_Mo_133 (npc := 15) dX11_reduce_12 rfl rfl (Nat.le_of_ble_eq_true rfl) (by decide) h9 (fun s10 e12 => ?_)
    replace hT := hT s10 e12
    refine g_aload_n (npc := 16) dX11_reduce_15 rfl rfl rfl ?_
    refine g_aload_n (npc := 17) dX11_reduce_16 rfl rfl rfl ?_
    refine gf_Mo_22 (npc := 20) dX11_reduce_17 rfl rfl ?_
    obtain ⟨Q13, h14, hT⟩ := hT
    refine iv_Mo_167 (npc := 23) dX11_reduce_20 rfl rfl (Nat.le_of_ble_eq_true rfl) (by decide) h14 (fun r16 s15 e17 => ?_)
    replace hT := hT r16 s15 e17
    exact g_iret dX11_reduce_23 rfl rfl ⟨_, rfl, hT⟩
  · replace hT := hTf (Decidable.not_not.mp c7)
    refine g_sipush (npc := 10) (x := (-10003)) dX11_reduce_7 rfl (by decide) ?_
    exact g_iret dX11_reduce_10 rfl rfl ⟨_, rfl, hT⟩
abbrev H_Mo_raise_2 (Q : Sto → Prop) (k1 : Nat) (x2 : Int) (s : Sto) : Prop := Go SM M_Mo_raise (fV0 Q) 2 [(0, .ref 0), (1, .ref k1), (2, iV x2)] [] s
abbrev H_Mo_raise_79 (Q : Sto → Prop) (k1 : Nat) (x2 : Int) (s : Sto) : Prop := Go SM M_Mo_raise (fV0 Q) 79 [(0, .ref 0), (1, .ref k1), (2, iV x2)] [] s
set_option maxRecDepth 20000 in
theorem b_Mo_raise_2 {Q : Sto → Prop} {k1 : Nat} {x2 : Int} (hk1 : ar SM k1 1 8) {s : Sto} (hT : (-2147483648 ≤ x2 ∧ x2 < 2147483648) ∧ ((8 ≤ x2) → ∃ Q3 : Sto → Prop, K_Mo_copy 14 13 s Q3 ∧ ∀ s5, Q3 s5 → ∃ Q8 : Int → Sto → Prop, K_Mo_settle 14 s5 Q8 ∧ ∀ r11 s10, Q8 r11 s10 → ∃ Q13 : Int → Sto → Prop, K_Mo_settle k1 s10 Q13 ∧ ∀ r16 s15, Q13 r16 s15 → H_Mo_raise_79 Q k1 0 s15) ∧ ((x2 < 8) → ((-2147483648 ≤ x2 ∧ x2 < 2147483648) ∧ -2147483648 ≤ (s 0 2) ∧ (s 0 2) < 2147483648) ∧ ((x2 = (s 0 2)) → (0 ≤ x2 ∧ x2 < 8) ∧ ∀ s21, s21 = up s 14 (Int.toNat x2) 0 → H_Mo_raise_2 Q k1 (x2 + 1) s21) ∧ ((¬ x2 = (s 0 2)) → ((-2147483648 ≤ x2 ∧ x2 < 2147483648) ∧ -2147483648 ≤ (s 0 0) ∧ (s 0 0) < 2147483648) ∧ ((x2 < (s 0 0)) → (0 ≤ x2 ∧ x2 < 8) ∧ (0 ≤ x2 ∧ x2 < 8) ∧ ∀ s26, s26 = up s 14 (Int.toNat x2) (2 * ((s 4 (Int.toNat x2)) - 1)) → H_Mo_raise_2 Q k1 (x2 + 1) s26) ∧ (((s 0 0) ≤ x2) → (0 ≤ x2 ∧ x2 < 8) ∧ ∀ s28, s28 = up s 14 (Int.toNat x2) 0 → H_Mo_raise_2 Q k1 (x2 + 1) s28)))) : H_Mo_raise_2 Q k1 x2 s := by
  refine g_iload_n (npc := 3) dX11_raise_2 rfl rfl rfl ?_
  refine g_bipush (npc := 5) (x := 8) dX11_raise_3 rfl (by decide) ?_
  obtain ⟨h1, hTt, hTf⟩ := hT
  refine g_icmp_ge (npc := 8) (tgt := 50) dX11_raise_5 rfl (by decide) ⟨h1, by decide, by decide⟩ (fun c2 => ?_) (fun c2 => ?_)
  · replace hT := hTt c2
    refine g_aload_n (npc := 51) dX11_raise_50 rfl rfl rfl ?_
    refine g_aload_n (npc := 52) dX11_raise_51 rfl rfl rfl ?_
    refine gf_Mo_51 (npc := 55) dX11_raise_52 rfl rfl ?_
    refine g_aload_n (npc := 56) dX11_raise_55 rfl rfl rfl ?_
    refine gf_Mo_48 (npc := 59) dX11_raise_56 rfl rfl ?_
    obtain ⟨Q3, h4, hT⟩ := hT
    refine iv_Mo_148 (npc := 62) dX11_raise_59 rfl rfl (Nat.le_of_ble_eq_true rfl) (by decide) h4 (fun s5 e7 => ?_)
    replace hT := hT s5 e7
    refine g_aload_n (npc := 63) dX11_raise_62 rfl rfl rfl ?_
    refine g_aload_n (npc := 64) dX11_raise_63 rfl rfl rfl ?_
    refine gf_Mo_51 (npc := 67) dX11_raise_64 rfl rfl ?_
    obtain ⟨Q8, h9, hT⟩ := hT
    refine iv_Mo_144 (npc := 70) dX11_raise_67 rfl rfl (Nat.le_of_ble_eq_true rfl) (by decide) h9 (fun r11 s10 e12 => ?_)
    replace hT := hT r11 s10 e12
    refine g_pop (npc := 71) dX11_raise_70 rfl rfl ?_
    refine g_aload_n (npc := 72) dX11_raise_71 rfl rfl rfl ?_
    refine g_aload_n (npc := 73) dX11_raise_72 rfl rfl rfl ?_
    obtain ⟨Q13, h14, hT⟩ := hT
    refine iv_Mo_144 (npc := 76) dX11_raise_73 rfl rfl (Nat.le_of_ble_eq_true rfl) (by decide) h14 (fun r16 s15 e17 => ?_)
    replace hT := hT r16 s15 e17
    refine g_pop (npc := 77) dX11_raise_76 rfl rfl ?_
    refine g_iconst (npc := 78) dX11_raise_77 rfl ?_
    refine g_istore_n (npc := 79) (l' := [(0, .ref 0), (1, .ref k1), (2, iV 0)]) dX11_raise_78 rfl rfl (by decide) rfl ?_
    exact hT
  · replace hT := hTf (Int.not_le.mp c2)
    refine g_aload_n (npc := 9) dX11_raise_8 rfl rfl rfl ?_
    refine gf_Mo_51 (npc := 12) dX11_raise_9 rfl rfl ?_
    refine g_iload_n (npc := 13) dX11_raise_12 rfl rfl rfl ?_
    refine g_iload_n (npc := 14) dX11_raise_13 rfl rfl rfl ?_
    refine g_aload_n (npc := 15) dX11_raise_14 rfl rfl rfl ?_
    refine gf_Mo_84 (npc := 18) dX11_raise_15 rfl rfl ?_
    obtain ⟨h18, hTt, hTf⟩ := hT
    refine g_icmp_eq (npc := 21) (tgt := 29) dX11_raise_18 rfl (by decide) h18 (fun c19 => ?_) (fun c19 => ?_)
    · replace hT := hTt c19
      refine g_iconst (npc := 30) dX11_raise_29 rfl ?_
      refine g_goto (npc := 43) dX11_raise_30 (by decide) ?_
      obtain ⟨h20, hT⟩ := hT
      replace hT := hT _ rfl
      refine g_iast (npc := 44) dX11_raise_43 rfl arSM_14 h20  ?_
      refine g_iinc (npc := 47) (y := (x2 + 1)) (l' := [(0, .ref 0), (1, .ref k1), (2, iV (x2 + 1))]) dX11_raise_44 rfl (by decide) rfl (by omega) rfl ?_
      refine g_goto (npc := 2) dX11_raise_47 (by decide) ?_
      exact hT
    · replace hT := hTf c19
      refine g_iload_n (npc := 22) dX11_raise_21 rfl rfl rfl ?_
      refine g_aload_n (npc := 23) dX11_raise_22 rfl rfl rfl ?_
      refine gf_Mo_77 (npc := 26) dX11_raise_23 rfl rfl ?_
      obtain ⟨h22, hTt, hTf⟩ := hT
      refine g_icmp_lt (npc := 29) (tgt := 33) dX11_raise_26 rfl (by decide) h22 (fun c23 => ?_) (fun c23 => ?_)
      · replace hT := hTt c23
        refine g_iconst (npc := 34) dX11_raise_33 rfl ?_
        refine g_aload_n (npc := 35) dX11_raise_34 rfl rfl rfl ?_
        refine gf_Mo_19 (npc := 38) dX11_raise_35 rfl rfl ?_
        refine g_iload_n (npc := 39) dX11_raise_38 rfl rfl rfl ?_
        obtain ⟨h24, hT⟩ := hT
        refine g_iald (npc := 40) dX11_raise_39 rfl arSM_4 h24 ?_
        refine g_iconst (npc := 41) dX11_raise_40 rfl ?_
        refine g_isub (npc := 42) dX11_raise_41 rfl ?_
        refine g_imul (npc := 43) dX11_raise_42 rfl ?_
        obtain ⟨h25, hT⟩ := hT
        replace hT := hT _ rfl
        refine g_iast (npc := 44) dX11_raise_43 rfl arSM_14 h25  ?_
        refine g_iinc (npc := 47) (y := (x2 + 1)) (l' := [(0, .ref 0), (1, .ref k1), (2, iV (x2 + 1))]) dX11_raise_44 rfl (by decide) rfl (by omega) rfl ?_
        refine g_goto (npc := 2) dX11_raise_47 (by decide) ?_
        exact hT
      · replace hT := hTf (Int.not_lt.mp c23)
        refine g_iconst (npc := 30) dX11_raise_29 rfl ?_
        refine g_goto (npc := 43) dX11_raise_30 (by decide) ?_
        obtain ⟨h27, hT⟩ := hT
        replace hT := hT _ rfl
        refine g_iast (npc := 44) dX11_raise_43 rfl arSM_14 h27  ?_
        refine g_iinc (npc := 47) (y := (x2 + 1)) (l' := [(0, .ref 0), (1, .ref k1), (2, iV (x2 + 1))]) dX11_raise_44 rfl (by decide) rfl (by omega) rfl ?_
        refine g_goto (npc := 2) dX11_raise_47 (by decide) ?_
        exact hT
set_option maxRecDepth 20000 in
theorem b_Mo_raise_79 {Q : Sto → Prop} {k1 : Nat} {x2 : Int} (hk1 : ar SM k1 1 8) {s : Sto} (hT : (-2147483648 ≤ x2 ∧ x2 < 2147483648) ∧ ((8 ≤ x2) → ∃ Q31 : Int → Sto → Prop, K_Mo_settle k1 s Q31 ∧ ∀ r34 s33, Q31 r34 s33 → Q s33) ∧ ((x2 < 8) → (0 ≤ x2 ∧ x2 < 8) ∧ (0 ≤ x2 ∧ x2 < 8) ∧ (0 ≤ x2 ∧ x2 < 8) ∧ (0 ≤ x2 ∧ x2 < 8) ∧ ∀ s40, s40 = up s k1 (Int.toNat x2) ((s k1 (Int.toNat x2)) + ((s 13 (Int.toNat x2)) - (s 14 (Int.toNat x2)))) → H_Mo_raise_79 Q k1 (x2 + 1) s40)) : H_Mo_raise_79 Q k1 x2 s := by
  refine g_iload_n (npc := 80) dX11_raise_79 rfl rfl rfl ?_
  refine g_bipush (npc := 82) (x := 8) dX11_raise_80 rfl (by decide) ?_
  obtain ⟨h29, hTt, hTf⟩ := hT
  refine g_icmp_ge (npc := 85) (tgt := 110) dX11_raise_82 rfl (by decide) ⟨h29, by decide, by decide⟩ (fun c30 => ?_) (fun c30 => ?_)
  · replace hT := hTt c30
    refine g_aload_n (npc := 111) dX11_raise_110 rfl rfl rfl ?_
    refine g_aload_n (npc := 112) dX11_raise_111 rfl rfl rfl ?_
    obtain ⟨Q31, h32, hT⟩ := hT
    refine iv_Mo_144 (npc := 115) dX11_raise_112 rfl rfl (Nat.le_of_ble_eq_true rfl) (by decide) h32 (fun r34 s33 e35 => ?_)
    replace hT := hT r34 s33 e35
    refine g_pop (npc := 116) dX11_raise_115 rfl rfl ?_
    exact g_ret dX11_raise_116 rfl ⟨rfl, hT⟩
  · replace hT := hTf (Int.not_le.mp c30)
    refine g_aload_n (npc := 86) dX11_raise_85 rfl rfl rfl ?_
    refine g_iload_n (npc := 87) dX11_raise_86 rfl rfl rfl ?_
    refine g_dup2 (npc := 88) dX11_raise_87 rfl rfl rfl ?_
    obtain ⟨h36, hT⟩ := hT
    refine g_iald (npc := 89) dX11_raise_88 rfl hk1 h36 ?_
    refine g_aload_n (npc := 90) dX11_raise_89 rfl rfl rfl ?_
    refine gf_Mo_48 (npc := 93) dX11_raise_90 rfl rfl ?_
    refine g_iload_n (npc := 94) dX11_raise_93 rfl rfl rfl ?_
    obtain ⟨h37, hT⟩ := hT
    refine g_iald (npc := 95) dX11_raise_94 rfl arSM_13 h37 ?_
    refine g_aload_n (npc := 96) dX11_raise_95 rfl rfl rfl ?_
    refine gf_Mo_51 (npc := 99) dX11_raise_96 rfl rfl ?_
    refine g_iload_n (npc := 100) dX11_raise_99 rfl rfl rfl ?_
    obtain ⟨h38, hT⟩ := hT
    refine g_iald (npc := 101) dX11_raise_100 rfl arSM_14 h38 ?_
    refine g_isub (npc := 102) dX11_raise_101 rfl ?_
    refine g_iadd (npc := 103) dX11_raise_102 rfl ?_
    obtain ⟨h39, hT⟩ := hT
    replace hT := hT _ rfl
    refine g_iast (npc := 104) dX11_raise_103 rfl hk1 h39  ?_
    refine g_iinc (npc := 107) (y := (x2 + 1)) (l' := [(0, .ref 0), (1, .ref k1), (2, iV (x2 + 1))]) dX11_raise_104 rfl (by decide) rfl (by omega) rfl ?_
    refine g_goto (npc := 79) dX11_raise_107 (by decide) ?_
    exact hT
set_option maxRecDepth 20000 in
theorem e_Mo_raise {k1 : Nat} (hk1 : ar SM k1 1 8) {s : Sto} {Q : Sto → Prop} (hT : H_Mo_raise_2 Q k1 0 s) : K_Mo_raise k1 s Q := by
  refine Sp.body (by decide) (Nat.le_of_ble_eq_true rfl) ?_
  show Go SM M_Mo_raise (fV0 Q) 0 [(0, .ref 0), (1, .ref k1)] [] s
  refine g_iconst (npc := 1) dX11_raise_0 rfl ?_
  refine g_istore_n (npc := 2) (l' := [(0, .ref 0), (1, .ref k1), (2, iV 0)]) dX11_raise_1 rfl rfl (by decide) rfl ?_
  exact hT
abbrev H_Mo_areSame_4 (Q : Int → Sto → Prop) (k0 : Nat) (k1 : Nat) (x2 : Int) (x3 : Int) (s : Sto) : Prop := Go SM M_Mo_areSame (fI Q) 4 [(0, .ref k0), (1, .ref k1), (2, iV x2), (3, iV x3)] [] s
set_option maxRecDepth 20000 in
theorem b_Mo_areSame_4 {Q : Int → Sto → Prop} {k0 : Nat} {k1 : Nat} {x2 : Int} {x3 : Int} (hk0 : ar SM k0 1 8) (hk1 : ar SM k1 1 8) {s : Sto} (hT : (-2147483648 ≤ x3 ∧ x3 < 2147483648) ∧ ((8 ≤ x3) → (x2 = 0 ∨ x2 = 1) ∧ Q x2 s) ∧ ((x3 < 8) → (-2147483648 ≤ x2 ∧ x2 < 2147483648) ∧ ((x2 = 0) → H_Mo_areSame_4 Q k0 k1 0 (x3 + 1) s) ∧ ((¬ x2 = 0) → (0 ≤ x3 ∧ x3 < 8) ∧ (0 ≤ x3 ∧ x3 < 8) ∧ ((-2147483648 ≤ (s k0 (Int.toNat x3)) ∧ (s k0 (Int.toNat x3)) < 2147483648) ∧ -2147483648 ≤ (s k1 (Int.toNat x3)) ∧ (s k1 (Int.toNat x3)) < 2147483648) ∧ ((¬ (s k0 (Int.toNat x3)) = (s k1 (Int.toNat x3))) → H_Mo_areSame_4 Q k0 k1 0 (x3 + 1) s) ∧ (((s k0 (Int.toNat x3)) = (s k1 (Int.toNat x3))) → H_Mo_areSame_4 Q k0 k1 1 (x3 + 1) s)))) : H_Mo_areSame_4 Q k0 k1 x2 x3 s := by
  refine g_iload_n (npc := 5) dX11_areSame_4 rfl rfl rfl ?_
  refine g_bipush (npc := 7) (x := 8) dX11_areSame_5 rfl (by decide) ?_
  obtain ⟨h1, hTt, hTf⟩ := hT
  refine g_icmp_ge (npc := 10) (tgt := 35) dX11_areSame_7 rfl (by decide) ⟨h1, by decide, by decide⟩ (fun c2 => ?_) (fun c2 => ?_)
  · replace hT := hTt c2
    refine g_iload_n (npc := 36) dX11_areSame_35 rfl rfl rfl ?_
    obtain ⟨h3, hT⟩ := hT
    exact g_iret dX11_areSame_36 rfl (nar_zv h3) ⟨_, rfl, hT⟩
  · replace hT := hTf (Int.not_le.mp c2)
    refine g_iload_n (npc := 11) dX11_areSame_10 rfl rfl rfl ?_
    obtain ⟨h4, hTt, hTf⟩ := hT
    refine g_if_eq (npc := 14) (tgt := 27) dX11_areSame_11 rfl (by decide) h4 (fun c5 => ?_) (fun c5 => ?_)
    · replace hT := hTt c5
      refine g_iconst (npc := 28) dX11_areSame_27 rfl ?_
      refine g_istore_n (npc := 29) (l' := [(0, .ref k0), (1, .ref k1), (2, iV 0), (3, iV x3)]) dX11_areSame_28 rfl rfl (by decide) rfl ?_
      refine g_iinc (npc := 32) (y := (x3 + 1)) (l' := [(0, .ref k0), (1, .ref k1), (2, iV 0), (3, iV (x3 + 1))]) dX11_areSame_29 rfl (by decide) rfl (by omega) rfl ?_
      refine g_goto (npc := 4) dX11_areSame_32 (by decide) ?_
      exact hT
    · replace hT := hTf c5
      refine g_aload_n (npc := 15) dX11_areSame_14 rfl rfl rfl ?_
      refine g_iload_n (npc := 16) dX11_areSame_15 rfl rfl rfl ?_
      obtain ⟨h6, hT⟩ := hT
      refine g_iald (npc := 17) dX11_areSame_16 rfl hk0 h6 ?_
      refine g_aload_n (npc := 18) dX11_areSame_17 rfl rfl rfl ?_
      refine g_iload_n (npc := 19) dX11_areSame_18 rfl rfl rfl ?_
      obtain ⟨h7, hT⟩ := hT
      refine g_iald (npc := 20) dX11_areSame_19 rfl hk1 h7 ?_
      obtain ⟨h8, hTt, hTf⟩ := hT
      refine g_icmp_ne (npc := 23) (tgt := 27) dX11_areSame_20 rfl (by decide) h8 (fun c9 => ?_) (fun c9 => ?_)
      · replace hT := hTt c9
        refine g_iconst (npc := 28) dX11_areSame_27 rfl ?_
        refine g_istore_n (npc := 29) (l' := [(0, .ref k0), (1, .ref k1), (2, iV 0), (3, iV x3)]) dX11_areSame_28 rfl rfl (by decide) rfl ?_
        refine g_iinc (npc := 32) (y := (x3 + 1)) (l' := [(0, .ref k0), (1, .ref k1), (2, iV 0), (3, iV (x3 + 1))]) dX11_areSame_29 rfl (by decide) rfl (by omega) rfl ?_
        refine g_goto (npc := 4) dX11_areSame_32 (by decide) ?_
        exact hT
      · replace hT := hTf (Decidable.not_not.mp c9)
        refine g_iconst (npc := 24) dX11_areSame_23 rfl ?_
        refine g_goto (npc := 28) dX11_areSame_24 (by decide) ?_
        refine g_istore_n (npc := 29) (l' := [(0, .ref k0), (1, .ref k1), (2, iV 1), (3, iV x3)]) dX11_areSame_28 rfl rfl (by decide) rfl ?_
        refine g_iinc (npc := 32) (y := (x3 + 1)) (l' := [(0, .ref k0), (1, .ref k1), (2, iV 1), (3, iV (x3 + 1))]) dX11_areSame_29 rfl (by decide) rfl (by omega) rfl ?_
        refine g_goto (npc := 4) dX11_areSame_32 (by decide) ?_
        exact hT
set_option maxRecDepth 20000 in
theorem e_Mo_areSame {k0 : Nat} {k1 : Nat} (hk0 : ar SM k0 1 8) (hk1 : ar SM k1 1 8) {s : Sto} {Q : Int → Sto → Prop} (hT : H_Mo_areSame_4 Q k0 k1 1 0 s) : K_Mo_areSame k0 k1 s Q := by
  refine Sp.body (by decide) (Nat.le_of_ble_eq_true rfl) ?_
  show Go SM M_Mo_areSame (fI Q) 0 [(0, .ref k0), (1, .ref k1)] [] s
  refine g_iconst (npc := 1) dX11_areSame_0 rfl ?_
  refine g_istore_n (npc := 2) (l' := [(0, .ref k0), (1, .ref k1), (2, iV 1)]) dX11_areSame_1 rfl rfl (by decide) rfl ?_
  refine g_iconst (npc := 3) dX11_areSame_2 rfl ?_
  refine g_istore_n (npc := 4) (l' := [(0, .ref k0), (1, .ref k1), (2, iV 1), (3, iV 0)]) dX11_areSame_3 rfl rfl (by decide) rfl ?_
  exact hT
set_option maxRecDepth 20000 in
theorem e_Mo_makeRecurrent {s : Sto} {Q : Int → Sto → Prop} (hT : ∃ Q1 : Int → Sto → Prop, K_Mo_isConnected s Q1 ∧ ∀ r4 s3, Q1 r4 s3 → (-2147483648 ≤ r4 ∧ r4 < 2147483648) ∧ ((¬ r4 = 0) → ∃ Q8 : Sto → Prop, K_Mo_keepState s3 Q8 ∧ ∀ s10, Q8 s10 → ∃ Q13 : Sto → Prop, K_Mo_copy 5 12 s10 Q13 ∧ ∀ s15, Q13 s15 → ∃ Q18 : Sto → Prop, K_Mo_raise 5 s15 Q18 ∧ ∀ s20, Q18 s20 → ∃ Q23 : Int → Sto → Prop, K_Mo_areSame 5 12 s20 Q23 ∧ ∀ r26 s25, Q23 r26 s25 → (-2147483648 ≤ r26 ∧ r26 < 2147483648) ∧ ((r26 = 0) → Q 1 s25) ∧ ((¬ r26 = 0) → Q 0 s25)) ∧ ((r4 = 0) → Q (-10003) s3)) : K_Mo_makeRecurrent s Q := by
  refine Sp.body (by decide) (Nat.le_of_ble_eq_true rfl) ?_
  show Go SM M_Mo_makeRecurrent (fI Q) 0 [(0, .ref 0)] [] s
  refine g_aload_n (npc := 1) dX11_makeRecurrent_0 rfl rfl rfl ?_
  obtain ⟨Q1, h2, hT⟩ := hT
  refine iv_Mo_119 (npc := 4) dX11_makeRecurrent_1 rfl rfl (Nat.le_of_ble_eq_true rfl) (by decide) h2 (fun r4 s3 e5 => ?_)
  replace hT := hT r4 s3 e5
  obtain ⟨h6, hTt, hTf⟩ := hT
  refine g_if_ne (npc := 7) (tgt := 11) dX11_makeRecurrent_4 rfl (by decide) h6 (fun c7 => ?_) (fun c7 => ?_)
  · replace hT := hTt c7
    refine g_aload_n (npc := 12) dX11_makeRecurrent_11 rfl rfl rfl ?_
    obtain ⟨Q8, h9, hT⟩ := hT
    refine iv_Mo_133 (npc := 15) dX11_makeRecurrent_12 rfl rfl (Nat.le_of_ble_eq_true rfl) (by decide) h9 (fun s10 e12 => ?_)
    replace hT := hT s10 e12
    refine g_aload_n (npc := 16) dX11_makeRecurrent_15 rfl rfl rfl ?_
    refine g_aload_n (npc := 17) dX11_makeRecurrent_16 rfl rfl rfl ?_
    refine gf_Mo_22 (npc := 20) dX11_makeRecurrent_17 rfl rfl ?_
    refine g_aload_n (npc := 21) dX11_makeRecurrent_20 rfl rfl rfl ?_
    refine gf_Mo_45 (npc := 24) dX11_makeRecurrent_21 rfl rfl ?_
    obtain ⟨Q13, h14, hT⟩ := hT
    refine iv_Mo_148 (npc := 27) dX11_makeRecurrent_24 rfl rfl (Nat.le_of_ble_eq_true rfl) (by decide) h14 (fun s15 e17 => ?_)
    replace hT := hT s15 e17
    refine g_aload_n (npc := 28) dX11_makeRecurrent_27 rfl rfl rfl ?_
    refine g_aload_n (npc := 29) dX11_makeRecurrent_28 rfl rfl rfl ?_
    refine gf_Mo_22 (npc := 32) dX11_makeRecurrent_29 rfl rfl ?_
    obtain ⟨Q18, h19, hT⟩ := hT
    refine iv_Mo_170 (npc := 35) dX11_makeRecurrent_32 rfl rfl (Nat.le_of_ble_eq_true rfl) (by decide) h19 (fun s20 e22 => ?_)
    replace hT := hT s20 e22
    refine g_aload_n (npc := 36) dX11_makeRecurrent_35 rfl rfl rfl ?_
    refine gf_Mo_22 (npc := 39) dX11_makeRecurrent_36 rfl rfl ?_
    refine g_aload_n (npc := 40) dX11_makeRecurrent_39 rfl rfl rfl ?_
    refine gf_Mo_45 (npc := 43) dX11_makeRecurrent_40 rfl rfl ?_
    obtain ⟨Q23, h24, hT⟩ := hT
    refine iv_Mo_173 (npc := 46) dX11_makeRecurrent_43 rfl rfl (Nat.le_of_ble_eq_true rfl) (by decide) h24 (fun r26 s25 e27 => ?_)
    replace hT := hT r26 s25 e27
    obtain ⟨h28, hTt, hTf⟩ := hT
    refine g_if_eq (npc := 49) (tgt := 53) dX11_makeRecurrent_46 rfl (by decide) h28 (fun c29 => ?_) (fun c29 => ?_)
    · replace hT := hTt c29
      refine g_iconst (npc := 54) dX11_makeRecurrent_53 rfl ?_
      exact g_iret dX11_makeRecurrent_54 rfl rfl ⟨_, rfl, hT⟩
    · replace hT := hTf c29
      refine g_iconst (npc := 50) dX11_makeRecurrent_49 rfl ?_
      refine g_goto (npc := 54) dX11_makeRecurrent_50 (by decide) ?_
      exact g_iret dX11_makeRecurrent_54 rfl rfl ⟨_, rfl, hT⟩
  · replace hT := hTf (Decidable.not_not.mp c7)
    refine g_sipush (npc := 10) (x := (-10003)) dX11_makeRecurrent_7 rfl (by decide) ?_
    exact g_iret dX11_makeRecurrent_10 rfl rfl ⟨_, rfl, hT⟩
abbrev H_Mo_isStable_4 (Q : Int → Sto → Prop) (k1 : Nat) (x2 : Int) (x3 : Int) (s : Sto) : Prop := Go SM M_Mo_isStable (fI Q) 4 [(0, .ref 0), (1, .ref k1), (2, iV x2), (3, iV x3)] [] s
set_option maxRecDepth 20000 in
theorem b_Mo_isStable_4 {Q : Int → Sto → Prop} {k1 : Nat} {x2 : Int} {x3 : Int} (hk1 : ar SM k1 1 8) {s : Sto} (hT : ((-2147483648 ≤ x3 ∧ x3 < 2147483648) ∧ -2147483648 ≤ (s 0 0) ∧ (s 0 0) < 2147483648) ∧ (((s 0 0) ≤ x3) → (x2 = 0 ∨ x2 = 1) ∧ Q x2 s) ∧ ((x3 < (s 0 0)) → (-2147483648 ≤ x2 ∧ x2 < 2147483648) ∧ ((x2 = 0) → H_Mo_isStable_4 Q k1 0 (x3 + 1) s) ∧ ((¬ x2 = 0) → ∃ Q6 : Int → Sto → Prop, K_Mo_canFire k1 x3 s Q6 ∧ ∀ r9 s8, Q6 r9 s8 → (-2147483648 ≤ r9 ∧ r9 < 2147483648) ∧ ((¬ r9 = 0) → H_Mo_isStable_4 Q k1 0 (x3 + 1) s8) ∧ ((r9 = 0) → H_Mo_isStable_4 Q k1 1 (x3 + 1) s8)))) : H_Mo_isStable_4 Q k1 x2 x3 s := by
  refine g_iload_n (npc := 5) dX11_isStable_4 rfl rfl rfl ?_
  refine g_aload_n (npc := 6) dX11_isStable_5 rfl rfl rfl ?_
  refine gf_Mo_77 (npc := 9) dX11_isStable_6 rfl rfl ?_
  obtain ⟨h1, hTt, hTf⟩ := hT
  refine g_icmp_ge (npc := 12) (tgt := 37) dX11_isStable_9 rfl (by decide) h1 (fun c2 => ?_) (fun c2 => ?_)
  · replace hT := hTt c2
    refine g_iload_n (npc := 38) dX11_isStable_37 rfl rfl rfl ?_
    obtain ⟨h3, hT⟩ := hT
    exact g_iret dX11_isStable_38 rfl (nar_zv h3) ⟨_, rfl, hT⟩
  · replace hT := hTf (Int.not_le.mp c2)
    refine g_iload_n (npc := 13) dX11_isStable_12 rfl rfl rfl ?_
    obtain ⟨h4, hTt, hTf⟩ := hT
    refine g_if_eq (npc := 16) (tgt := 29) dX11_isStable_13 rfl (by decide) h4 (fun c5 => ?_) (fun c5 => ?_)
    · replace hT := hTt c5
      refine g_iconst (npc := 30) dX11_isStable_29 rfl ?_
      refine g_istore_n (npc := 31) (l' := [(0, .ref 0), (1, .ref k1), (2, iV 0), (3, iV x3)]) dX11_isStable_30 rfl rfl (by decide) rfl ?_
      refine g_iinc (npc := 34) (y := (x3 + 1)) (l' := [(0, .ref 0), (1, .ref k1), (2, iV 0), (3, iV (x3 + 1))]) dX11_isStable_31 rfl (by decide) rfl (by omega) rfl ?_
      refine g_goto (npc := 4) dX11_isStable_34 (by decide) ?_
      exact hT
    · replace hT := hTf c5
      refine g_aload_n (npc := 17) dX11_isStable_16 rfl rfl rfl ?_
      refine g_aload_n (npc := 18) dX11_isStable_17 rfl rfl rfl ?_
      refine g_iload_n (npc := 19) dX11_isStable_18 rfl rfl rfl ?_
      obtain ⟨Q6, h7, hT⟩ := hT
      refine iv_Mo_136 (npc := 22) dX11_isStable_19 rfl rfl (Nat.le_of_ble_eq_true rfl) (by decide) h7 (fun r9 s8 e10 => ?_)
      replace hT := hT r9 s8 e10
      obtain ⟨h11, hTt, hTf⟩ := hT
      refine g_if_ne (npc := 25) (tgt := 29) dX11_isStable_22 rfl (by decide) h11 (fun c12 => ?_) (fun c12 => ?_)
      · replace hT := hTt c12
        refine g_iconst (npc := 30) dX11_isStable_29 rfl ?_
        refine g_istore_n (npc := 31) (l' := [(0, .ref 0), (1, .ref k1), (2, iV 0), (3, iV x3)]) dX11_isStable_30 rfl rfl (by decide) rfl ?_
        refine g_iinc (npc := 34) (y := (x3 + 1)) (l' := [(0, .ref 0), (1, .ref k1), (2, iV 0), (3, iV (x3 + 1))]) dX11_isStable_31 rfl (by decide) rfl (by omega) rfl ?_
        refine g_goto (npc := 4) dX11_isStable_34 (by decide) ?_
        exact hT
      · replace hT := hTf (Decidable.not_not.mp c12)
        refine g_iconst (npc := 26) dX11_isStable_25 rfl ?_
        refine g_goto (npc := 30) dX11_isStable_26 (by decide) ?_
        refine g_istore_n (npc := 31) (l' := [(0, .ref 0), (1, .ref k1), (2, iV 1), (3, iV x3)]) dX11_isStable_30 rfl rfl (by decide) rfl ?_
        refine g_iinc (npc := 34) (y := (x3 + 1)) (l' := [(0, .ref 0), (1, .ref k1), (2, iV 1), (3, iV (x3 + 1))]) dX11_isStable_31 rfl (by decide) rfl (by omega) rfl ?_
        refine g_goto (npc := 4) dX11_isStable_34 (by decide) ?_
        exact hT
set_option maxRecDepth 20000 in
theorem e_Mo_isStable {k1 : Nat} (hk1 : ar SM k1 1 8) {s : Sto} {Q : Int → Sto → Prop} (hT : H_Mo_isStable_4 Q k1 1 0 s) : K_Mo_isStable k1 s Q := by
  refine Sp.body (by decide) (Nat.le_of_ble_eq_true rfl) ?_
  show Go SM M_Mo_isStable (fI Q) 0 [(0, .ref 0), (1, .ref k1)] [] s
  refine g_iconst (npc := 1) dX11_isStable_0 rfl ?_
  refine g_istore_n (npc := 2) (l' := [(0, .ref 0), (1, .ref k1), (2, iV 1)]) dX11_isStable_1 rfl rfl (by decide) rfl ?_
  refine g_iconst (npc := 3) dX11_isStable_2 rfl ?_
  refine g_istore_n (npc := 4) (l' := [(0, .ref 0), (1, .ref k1), (2, iV 1), (3, iV 0)]) dX11_isStable_3 rfl rfl (by decide) rfl ?_
  exact hT
set_option maxRecDepth 20000 in
theorem e_Mo_isRecurrent {k1 : Nat} (hk1 : ar SM k1 1 8) {s : Sto} {Q : Int → Sto → Prop} (hT : ∃ Q1 : Sto → Prop, K_Mo_burn k1 0 s Q1 ∧ ∀ s3, Q1 s3 → ∃ Q6 : Int → Sto → Prop, K_Mo_allBurn s3 Q6 ∧ ∀ r9 s8, Q6 r9 s8 → (-2147483648 ≤ r9 ∧ r9 < 2147483648) ∧ ((r9 = 0) → Q 0 s8) ∧ ((¬ r9 = 0) → ∃ Q13 : Int → Sto → Prop, K_Mo_isStable k1 s8 Q13 ∧ ∀ r16 s15, Q13 r16 s15 → (-2147483648 ≤ r16 ∧ r16 < 2147483648) ∧ ((r16 = 0) → Q 0 s15) ∧ ((¬ r16 = 0) → ∃ Q20 : Int → Sto → Prop, K_Mo_isConnected s15 Q20 ∧ ∀ r23 s22, Q20 r23 s22 → (-2147483648 ≤ r23 ∧ r23 < 2147483648) ∧ ((r23 = 0) → Q 0 s22) ∧ ((¬ r23 = 0) → Q 1 s22)))) : K_Mo_isRecurrent k1 s Q := by
  refine Sp.body (by decide) (Nat.le_of_ble_eq_true rfl) ?_
  show Go SM M_Mo_isRecurrent (fI Q) 0 [(0, .ref 0), (1, .ref k1)] [] s
  refine g_aload_n (npc := 1) dX11_isRecurrent_0 rfl rfl rfl ?_
  refine g_aload_n (npc := 2) dX11_isRecurrent_1 rfl rfl rfl ?_
  refine g_iconst (npc := 3) dX11_isRecurrent_2 rfl ?_
  obtain ⟨Q1, h2, hT⟩ := hT
  refine iv_Mo_152 (npc := 6) dX11_isRecurrent_3 rfl rfl (Nat.le_of_ble_eq_true rfl) (by decide) h2 (fun s3 e5 => ?_)
  replace hT := hT s3 e5
  refine g_aload_n (npc := 7) dX11_isRecurrent_6 rfl rfl rfl ?_
  obtain ⟨Q6, h7, hT⟩ := hT
  refine iv_Mo_156 (npc := 10) dX11_isRecurrent_7 rfl rfl (Nat.le_of_ble_eq_true rfl) (by decide) h7 (fun r9 s8 e10 => ?_)
  replace hT := hT r9 s8 e10
  obtain ⟨h11, hTt, hTf⟩ := hT
  refine g_if_eq (npc := 13) (tgt := 32) dX11_isRecurrent_10 rfl (by decide) h11 (fun c12 => ?_) (fun c12 => ?_)
  · replace hT := hTt c12
    refine g_iconst (npc := 33) dX11_isRecurrent_32 rfl ?_
    exact g_iret dX11_isRecurrent_33 rfl (by decide) ⟨_, rfl, hT⟩
  · replace hT := hTf c12
    refine g_aload_n (npc := 14) dX11_isRecurrent_13 rfl rfl rfl ?_
    refine g_aload_n (npc := 15) dX11_isRecurrent_14 rfl rfl rfl ?_
    obtain ⟨Q13, h14, hT⟩ := hT
    refine iv_Mo_159 (npc := 18) dX11_isRecurrent_15 rfl rfl (Nat.le_of_ble_eq_true rfl) (by decide) h14 (fun r16 s15 e17 => ?_)
    replace hT := hT r16 s15 e17
    obtain ⟨h18, hTt, hTf⟩ := hT
    refine g_if_eq (npc := 21) (tgt := 32) dX11_isRecurrent_18 rfl (by decide) h18 (fun c19 => ?_) (fun c19 => ?_)
    · replace hT := hTt c19
      refine g_iconst (npc := 33) dX11_isRecurrent_32 rfl ?_
      exact g_iret dX11_isRecurrent_33 rfl (by decide) ⟨_, rfl, hT⟩
    · replace hT := hTf c19
      refine g_aload_n (npc := 22) dX11_isRecurrent_21 rfl rfl rfl ?_
      obtain ⟨Q20, h21, hT⟩ := hT
      refine iv_Mo_119 (npc := 25) dX11_isRecurrent_22 rfl rfl (Nat.le_of_ble_eq_true rfl) (by decide) h21 (fun r23 s22 e24 => ?_)
      replace hT := hT r23 s22 e24
      obtain ⟨h25, hTt, hTf⟩ := hT
      refine g_if_eq (npc := 28) (tgt := 32) dX11_isRecurrent_25 rfl (by decide) h25 (fun c26 => ?_) (fun c26 => ?_)
      · replace hT := hTt c26
        refine g_iconst (npc := 33) dX11_isRecurrent_32 rfl ?_
        exact g_iret dX11_isRecurrent_33 rfl (by decide) ⟨_, rfl, hT⟩
      · replace hT := hTf c26
        refine g_iconst (npc := 29) dX11_isRecurrent_28 rfl ?_
        refine g_goto (npc := 33) dX11_isRecurrent_29 (by decide) ?_
        exact g_iret dX11_isRecurrent_33 rfl (by decide) ⟨_, rfl, hT⟩
set_option maxRecDepth 20000 in
theorem e_Mo_isSuperstable {k1 : Nat} (hk1 : ar SM k1 1 8) {s : Sto} {Q : Int → Sto → Prop} (hT : ∃ Q1 : Sto → Prop, K_Mo_burn k1 1 s Q1 ∧ ∀ s3, Q1 s3 → ∃ Q6 : Int → Sto → Prop, K_Mo_allBurn s3 Q6 ∧ ∀ r9 s8, Q6 r9 s8 → (-2147483648 ≤ r9 ∧ r9 < 2147483648) ∧ ((r9 = 0) → Q 0 s8) ∧ ((¬ r9 = 0) → ∃ Q13 : Int → Sto → Prop, K_Mo_isConnected s8 Q13 ∧ ∀ r16 s15, Q13 r16 s15 → (-2147483648 ≤ r16 ∧ r16 < 2147483648) ∧ ((r16 = 0) → Q 0 s15) ∧ ((¬ r16 = 0) → Q 1 s15))) : K_Mo_isSuperstable k1 s Q := by
  refine Sp.body (by decide) (Nat.le_of_ble_eq_true rfl) ?_
  show Go SM M_Mo_isSuperstable (fI Q) 0 [(0, .ref 0), (1, .ref k1)] [] s
  refine g_aload_n (npc := 1) dX11_isSuperstable_0 rfl rfl rfl ?_
  refine g_aload_n (npc := 2) dX11_isSuperstable_1 rfl rfl rfl ?_
  refine g_iconst (npc := 3) dX11_isSuperstable_2 rfl ?_
  obtain ⟨Q1, h2, hT⟩ := hT
  refine iv_Mo_152 (npc := 6) dX11_isSuperstable_3 rfl rfl (Nat.le_of_ble_eq_true rfl) (by decide) h2 (fun s3 e5 => ?_)
  replace hT := hT s3 e5
  refine g_aload_n (npc := 7) dX11_isSuperstable_6 rfl rfl rfl ?_
  obtain ⟨Q6, h7, hT⟩ := hT
  refine iv_Mo_156 (npc := 10) dX11_isSuperstable_7 rfl rfl (Nat.le_of_ble_eq_true rfl) (by decide) h7 (fun r9 s8 e10 => ?_)
  replace hT := hT r9 s8 e10
  obtain ⟨h11, hTt, hTf⟩ := hT
  refine g_if_eq (npc := 13) (tgt := 24) dX11_isSuperstable_10 rfl (by decide) h11 (fun c12 => ?_) (fun c12 => ?_)
  · replace hT := hTt c12
    refine g_iconst (npc := 25) dX11_isSuperstable_24 rfl ?_
    exact g_iret dX11_isSuperstable_25 rfl (by decide) ⟨_, rfl, hT⟩
  · replace hT := hTf c12
    refine g_aload_n (npc := 14) dX11_isSuperstable_13 rfl rfl rfl ?_
    obtain ⟨Q13, h14, hT⟩ := hT
    refine iv_Mo_119 (npc := 17) dX11_isSuperstable_14 rfl rfl (Nat.le_of_ble_eq_true rfl) (by decide) h14 (fun r16 s15 e17 => ?_)
    replace hT := hT r16 s15 e17
    obtain ⟨h18, hTt, hTf⟩ := hT
    refine g_if_eq (npc := 20) (tgt := 24) dX11_isSuperstable_17 rfl (by decide) h18 (fun c19 => ?_) (fun c19 => ?_)
    · replace hT := hTt c19
      refine g_iconst (npc := 25) dX11_isSuperstable_24 rfl ?_
      exact g_iret dX11_isSuperstable_25 rfl (by decide) ⟨_, rfl, hT⟩
    · replace hT := hTf c19
      refine g_iconst (npc := 21) dX11_isSuperstable_20 rfl ?_
      refine g_goto (npc := 25) dX11_isSuperstable_21 (by decide) ?_
      exact g_iret dX11_isSuperstable_25 rfl (by decide) ⟨_, rfl, hT⟩
set_option maxRecDepth 20000 in
theorem e_Mo_kind {s : Sto} {Q : Int → Sto → Prop} (hT : ∃ Q1 : Int → Sto → Prop, K_Mo_isStable 5 s Q1 ∧ ∀ r4 s3, Q1 r4 s3 → ∃ J7 : Int → Prop, (∀ v6, J7 v6 → ∃ Q10 : Int → Sto → Prop, K_Mo_isRecurrent 5 s3 Q10 ∧ ∀ r13 s12, Q10 r13 s12 → ∃ J16 : Int → Prop, (∀ v15, J16 v15 → ∃ Q19 : Int → Sto → Prop, K_Mo_isSuperstable 5 s12 Q19 ∧ ∀ r22 s21, Q19 r22 s21 → (-2147483648 ≤ r22 ∧ r22 < 2147483648) ∧ ((r22 = 0) → Q ((v6 + v15) + 0) s21) ∧ ((¬ r22 = 0) → Q ((v6 + v15) + 4) s21)) ∧ (-2147483648 ≤ r13 ∧ r13 < 2147483648) ∧ ((r13 = 0) → J16 0) ∧ ((¬ r13 = 0) → J16 2)) ∧ (-2147483648 ≤ r4 ∧ r4 < 2147483648) ∧ ((r4 = 0) → J7 0) ∧ ((¬ r4 = 0) → J7 1)) : K_Mo_kind s Q := by
  refine Sp.body (by decide) (Nat.le_of_ble_eq_true rfl) ?_
  show Go SM M_Mo_kind (fI Q) 0 [(0, .ref 0)] [] s
  refine g_aload_n (npc := 1) dX11_kind_0 rfl rfl rfl ?_
  refine g_aload_n (npc := 2) dX11_kind_1 rfl rfl rfl ?_
  refine gf_Mo_22 (npc := 5) dX11_kind_2 rfl rfl ?_
  obtain ⟨Q1, h2, hT⟩ := hT
  refine iv_Mo_159 (npc := 8) dX11_kind_5 rfl rfl (Nat.le_of_ble_eq_true rfl) (by decide) h2 (fun r4 s3 e5 => ?_)
  replace hT := hT r4 s3 e5
  obtain ⟨J7, hT⟩ := hT
  obtain ⟨hj29, hT⟩ := hT
  have K30 : ∀ (v6 : Int), J7 v6 → Go SM M_Mo_kind (fI Q) 16 [(0, .ref 0)] [iV v6] s3 := by
    intro v6 q31
    replace hT := hj29 v6 q31
    refine g_aload_n (npc := 17) dX11_kind_16 rfl rfl rfl ?_
    refine g_aload_n (npc := 18) dX11_kind_17 rfl rfl rfl ?_
    refine gf_Mo_22 (npc := 21) dX11_kind_18 rfl rfl ?_
    obtain ⟨Q10, h11, hT⟩ := hT
    refine iv_Mo_177 (npc := 24) dX11_kind_21 rfl rfl (Nat.le_of_ble_eq_true rfl) (by decide) h11 (fun r13 s12 e14 => ?_)
    replace hT := hT r13 s12 e14
    obtain ⟨J16, hT⟩ := hT
    obtain ⟨hj26, hT⟩ := hT
    have K27 : ∀ (v15 : Int), J16 v15 → Go SM M_Mo_kind (fI Q) 32 [(0, .ref 0)] [iV v15, iV v6] s12 := by
      intro v15 q28
      replace hT := hj26 v15 q28
      refine g_iadd (npc := 33) dX11_kind_32 rfl ?_
      refine g_aload_n (npc := 34) dX11_kind_33 rfl rfl rfl ?_
      refine g_aload_n (npc := 35) dX11_kind_34 rfl rfl rfl ?_
      refine gf_Mo_22 (npc := 38) dX11_kind_35 rfl rfl ?_
      obtain ⟨Q19, h20, hT⟩ := hT
      refine iv_Mo_180 (npc := 41) dX11_kind_38 rfl rfl (Nat.le_of_ble_eq_true rfl) (by decide) h20 (fun r22 s21 e23 => ?_)
      replace hT := hT r22 s21 e23
      obtain ⟨h24, hTt, hTf⟩ := hT
      refine g_if_eq (npc := 44) (tgt := 48) dX11_kind_41 rfl (by decide) h24 (fun c25 => ?_) (fun c25 => ?_)
      · replace hT := hTt c25
        refine g_iconst (npc := 49) dX11_kind_48 rfl ?_
        refine g_iadd (npc := 50) dX11_kind_49 rfl ?_
        exact g_iret dX11_kind_50 rfl rfl ⟨_, rfl, hT⟩
      · replace hT := hTf c25
        refine g_iconst (npc := 45) dX11_kind_44 rfl ?_
        refine g_goto (npc := 49) dX11_kind_45 (by decide) ?_
        refine g_iadd (npc := 50) dX11_kind_49 rfl ?_
        exact g_iret dX11_kind_50 rfl rfl ⟨_, rfl, hT⟩
    obtain ⟨h17, hTt, hTf⟩ := hT
    refine g_if_eq (npc := 27) (tgt := 31) dX11_kind_24 rfl (by decide) h17 (fun c18 => ?_) (fun c18 => ?_)
    · replace hT := hTt c18
      refine g_iconst (npc := 32) dX11_kind_31 rfl ?_
      exact K27 _ hT
    · replace hT := hTf c18
      refine g_iconst (npc := 28) dX11_kind_27 rfl ?_
      refine g_goto (npc := 32) dX11_kind_28 (by decide) ?_
      exact K27 _ hT
  obtain ⟨h8, hTt, hTf⟩ := hT
  refine g_if_eq (npc := 11) (tgt := 15) dX11_kind_8 rfl (by decide) h8 (fun c9 => ?_) (fun c9 => ?_)
  · replace hT := hTt c9
    refine g_iconst (npc := 16) dX11_kind_15 rfl ?_
    exact K30 _ hT
  · replace hT := hTf c9
    refine g_iconst (npc := 12) dX11_kind_11 rfl ?_
    refine g_goto (npc := 16) dX11_kind_12 (by decide) ?_
    exact K30 _ hT
set_option maxRecDepth 20000 in
theorem e_Mo_burnt {x1 : Int} {s : Sto} {Q : Int → Sto → Prop} (hT : ∃ Q1 : Int → Sto → Prop, K_Mo_isNode x1 s Q1 ∧ ∀ r4 s3, Q1 r4 s3 → (-2147483648 ≤ r4 ∧ r4 < 2147483648) ∧ ((¬ r4 = 0) → ∃ Q8 : Sto → Prop, K_Mo_burn 5 0 s3 Q8 ∧ ∀ s10, Q8 s10 → (0 ≤ x1 ∧ x1 < 8) ∧ (-2147483648 ≤ (s10 7 (Int.toNat x1)) ∧ (s10 7 (Int.toNat x1)) < 2147483648) ∧ ((0 ≤ (s10 7 (Int.toNat x1))) → (0 ≤ x1 ∧ x1 < 8) ∧ Q (s10 7 (Int.toNat x1)) s10) ∧ (((s10 7 (Int.toNat x1)) < 0) → Q (-10007) s10)) ∧ ((r4 = 0) → Q (-10001) s3)) : K_Mo_burnt x1 s Q := by
  refine Sp.body (by decide) (Nat.le_of_ble_eq_true rfl) ?_
  show Go SM M_Mo_burnt (fI Q) 0 [(0, .ref 0), (1, iV x1)] [] s
  refine g_aload_n (npc := 1) dX11_burnt_0 rfl rfl rfl ?_
  refine g_iload_n (npc := 2) dX11_burnt_1 rfl rfl rfl ?_
  obtain ⟨Q1, h2, hT⟩ := hT
  refine iv_Mo_101 (npc := 5) dX11_burnt_2 rfl rfl (Nat.le_of_ble_eq_true rfl) (by decide) h2 (fun r4 s3 e5 => ?_)
  replace hT := hT r4 s3 e5
  obtain ⟨h6, hTt, hTf⟩ := hT
  refine g_if_ne (npc := 8) (tgt := 12) dX11_burnt_5 rfl (by decide) h6 (fun c7 => ?_) (fun c7 => ?_)
  · replace hT := hTt c7
    refine g_aload_n (npc := 13) dX11_burnt_12 rfl rfl rfl ?_
    refine g_aload_n (npc := 14) dX11_burnt_13 rfl rfl rfl ?_
    refine gf_Mo_22 (npc := 17) dX11_burnt_14 rfl rfl ?_
    refine g_iconst (npc := 18) dX11_burnt_17 rfl ?_
    obtain ⟨Q8, h9, hT⟩ := hT
    refine iv_Mo_152 (npc := 21) dX11_burnt_18 rfl rfl (Nat.le_of_ble_eq_true rfl) (by decide) h9 (fun s10 e12 => ?_)
    replace hT := hT s10 e12
    refine g_aload_n (npc := 22) dX11_burnt_21 rfl rfl rfl ?_
    refine gf_Mo_29 (npc := 25) dX11_burnt_22 rfl rfl ?_
    refine g_iload_n (npc := 26) dX11_burnt_25 rfl rfl rfl ?_
    obtain ⟨h13, hT⟩ := hT
    refine g_iald (npc := 27) dX11_burnt_26 rfl arSM_7 h13 ?_
    obtain ⟨h14, hTt, hTf⟩ := hT
    refine g_if_ge (npc := 30) (tgt := 36) dX11_burnt_27 rfl (by decide) h14 (fun c15 => ?_) (fun c15 => ?_)
    · replace hT := hTt c15
      refine g_aload_n (npc := 37) dX11_burnt_36 rfl rfl rfl ?_
      refine gf_Mo_29 (npc := 40) dX11_burnt_37 rfl rfl ?_
      refine g_iload_n (npc := 41) dX11_burnt_40 rfl rfl rfl ?_
      obtain ⟨h16, hT⟩ := hT
      refine g_iald (npc := 42) dX11_burnt_41 rfl arSM_7 h16 ?_
      exact g_iret dX11_burnt_42 rfl rfl ⟨_, rfl, hT⟩
    · replace hT := hTf (Int.not_le.mp c15)
      refine g_sipush (npc := 33) (x := (-10007)) dX11_burnt_30 rfl (by decide) ?_
      refine g_goto (npc := 42) dX11_burnt_33 (by decide) ?_
      exact g_iret dX11_burnt_42 rfl rfl ⟨_, rfl, hT⟩
  · replace hT := hTf (Decidable.not_not.mp c7)
    refine g_sipush (npc := 11) (x := (-10001)) dX11_burnt_8 rfl (by decide) ?_
    exact g_iret dX11_burnt_11 rfl rfl ⟨_, rfl, hT⟩
set_option maxRecDepth 20000 in
theorem e_Mo_noSlot {x0 : Int} {s : Sto} {Q : Int → Sto → Prop} (hT : ∃ Q1 : Int → Sto → Prop, K_Mo_in x0 0 2 s Q1 ∧ ∀ r4 s3, Q1 r4 s3 → (-2147483648 ≤ r4 ∧ r4 < 2147483648) ∧ ((¬ r4 = 0) → Q 0 s3) ∧ ((r4 = 0) → Q 1 s3)) : K_Mo_noSlot x0 s Q := by
  refine Sp.body (by decide) (Nat.le_of_ble_eq_true rfl) ?_
  show Go SM M_Mo_noSlot (fI Q) 0 [(0, iV x0)] [] s
  refine g_iload_n (npc := 1) dX11_noSlot_0 rfl rfl rfl ?_
  refine g_iconst (npc := 2) dX11_noSlot_1 rfl ?_
  refine g_iconst (npc := 3) dX11_noSlot_2 rfl ?_
  obtain ⟨Q1, h2, hT⟩ := hT
  refine iv_Mo_97 (npc := 6) dX11_noSlot_3 rfl rfl (Nat.le_of_ble_eq_true rfl) (by decide) h2 (fun r4 s3 e5 => ?_)
  replace hT := hT r4 s3 e5
  obtain ⟨h6, hTt, hTf⟩ := hT
  refine g_if_ne (npc := 9) (tgt := 13) dX11_noSlot_6 rfl (by decide) h6 (fun c7 => ?_) (fun c7 => ?_)
  · replace hT := hTt c7
    refine g_iconst (npc := 14) dX11_noSlot_13 rfl ?_
    exact g_iret dX11_noSlot_14 rfl (by decide) ⟨_, rfl, hT⟩
  · replace hT := hTf (Decidable.not_not.mp c7)
    refine g_iconst (npc := 10) dX11_noSlot_9 rfl ?_
    refine g_goto (npc := 14) dX11_noSlot_10 (by decide) ?_
    exact g_iret dX11_noSlot_14 rfl (by decide) ⟨_, rfl, hT⟩
abbrev H_Mo_keep_28 (Q : Int → Sto → Prop) (x1 : Int) (x2 : Int) (x3 : Int) (s : Sto) : Prop := Go SM M_Mo_keep (fI Q) 28 [(0, .ref 0), (1, iV x1), (2, iV x2), (3, iV x3)] [] s
set_option maxRecDepth 20000 in
theorem b_Mo_keep_28 {Q : Int → Sto → Prop} {x1 : Int} {x2 : Int} {x3 : Int} {s : Sto} (hT : (-2147483648 ≤ x3 ∧ x3 < 2147483648) ∧ ((8 ≤ x3) → (0 ≤ x1 ∧ x1 < 3) ∧ ∀ s14, s14 = up s 9 (Int.toNat x1) 1 → Q x2 s14) ∧ ((x3 < 8) → (0 ≤ x3 ∧ x3 < 8) ∧ (0 ≤ ((8 * x1) + x3) ∧ ((8 * x1) + x3) < 24) ∧ ∀ s17, s17 = up s 10 (Int.toNat ((8 * x1) + x3)) (s 5 (Int.toNat x3)) → H_Mo_keep_28 Q x1 x2 (x3 + 1) s17)) : H_Mo_keep_28 Q x1 x2 x3 s := by
  refine g_iload_n (npc := 29) dX11_keep_28 rfl rfl rfl ?_
  refine g_bipush (npc := 31) (x := 8) dX11_keep_29 rfl (by decide) ?_
  obtain ⟨h11, hTt, hTf⟩ := hT
  refine g_icmp_ge (npc := 34) (tgt := 57) dX11_keep_31 rfl (by decide) ⟨h11, by decide, by decide⟩ (fun c12 => ?_) (fun c12 => ?_)
  · replace hT := hTt c12
    refine g_aload_n (npc := 58) dX11_keep_57 rfl rfl rfl ?_
    refine gf_Mo_35 (npc := 61) dX11_keep_58 rfl rfl ?_
    refine g_iload_n (npc := 62) dX11_keep_61 rfl rfl rfl ?_
    refine g_iconst (npc := 63) dX11_keep_62 rfl ?_
    obtain ⟨h13, hT⟩ := hT
    replace hT := hT _ rfl
    refine g_zast (npc := 64) dX11_keep_63 rfl arSM_9 h13 (by decide) ?_
    refine g_iload_n (npc := 65) dX11_keep_64 rfl rfl rfl ?_
    exact g_iret dX11_keep_65 rfl rfl ⟨_, rfl, hT⟩
  · replace hT := hTf (Int.not_le.mp c12)
    refine g_aload_n (npc := 35) dX11_keep_34 rfl rfl rfl ?_
    refine gf_Mo_39 (npc := 38) dX11_keep_35 rfl rfl ?_
    refine g_bipush (npc := 40) (x := 8) dX11_keep_38 rfl (by decide) ?_
    refine g_iload_n (npc := 41) dX11_keep_40 rfl rfl rfl ?_
    refine g_imul (npc := 42) dX11_keep_41 rfl ?_
    refine g_iload_n (npc := 43) dX11_keep_42 rfl rfl rfl ?_
    refine g_iadd (npc := 44) dX11_keep_43 rfl ?_
    refine g_aload_n (npc := 45) dX11_keep_44 rfl rfl rfl ?_
    refine gf_Mo_22 (npc := 48) dX11_keep_45 rfl rfl ?_
    refine g_iload_n (npc := 49) dX11_keep_48 rfl rfl rfl ?_
    obtain ⟨h15, hT⟩ := hT
    refine g_iald (npc := 50) dX11_keep_49 rfl arSM_5 h15 ?_
    obtain ⟨h16, hT⟩ := hT
    replace hT := hT _ rfl
    refine g_iast (npc := 51) dX11_keep_50 rfl arSM_10 h16  ?_
    refine g_iinc (npc := 54) (y := (x3 + 1)) (l' := [(0, .ref 0), (1, iV x1), (2, iV x2), (3, iV (x3 + 1))]) dX11_keep_51 rfl (by decide) rfl (by omega) rfl ?_
    refine g_goto (npc := 28) dX11_keep_54 (by decide) ?_
    exact hT
set_option maxRecDepth 20000 in
theorem e_Mo_keep {x1 : Int} {s : Sto} {Q : Int → Sto → Prop} (hT : ∃ Q1 : Int → Sto → Prop, K_Mo_noSlot x1 s Q1 ∧ ∀ r4 s3, Q1 r4 s3 → (-2147483648 ≤ r4 ∧ r4 < 2147483648) ∧ ((r4 = 0) → (0 ≤ x1 ∧ x1 < 3) ∧ (-2147483648 ≤ (s3 9 (Int.toNat x1)) ∧ (s3 9 (Int.toNat x1)) < 2147483648) ∧ (((s3 9 (Int.toNat x1)) = 0) → H_Mo_keep_28 Q x1 1 0 s3) ∧ ((¬ (s3 9 (Int.toNat x1)) = 0) → H_Mo_keep_28 Q x1 0 0 s3)) ∧ ((¬ r4 = 0) → Q (-10001) s3)) : K_Mo_keep x1 s Q := by
  refine Sp.body (by decide) (Nat.le_of_ble_eq_true rfl) ?_
  show Go SM M_Mo_keep (fI Q) 0 [(0, .ref 0), (1, iV x1)] [] s
  refine g_iload_n (npc := 1) dX11_keep_0 rfl rfl rfl ?_
  obtain ⟨Q1, h2, hT⟩ := hT
  refine iv_Mo_183 (npc := 4) dX11_keep_1 rfl rfl (Nat.le_of_ble_eq_true rfl) (by decide) h2 (fun r4 s3 e5 => ?_)
  replace hT := hT r4 s3 e5
  obtain ⟨h6, hTt, hTf⟩ := hT
  refine g_if_eq (npc := 7) (tgt := 11) dX11_keep_4 rfl (by decide) h6 (fun c7 => ?_) (fun c7 => ?_)
  · replace hT := hTt c7
    refine g_aload_n (npc := 12) dX11_keep_11 rfl rfl rfl ?_
    refine gf_Mo_35 (npc := 15) dX11_keep_12 rfl rfl ?_
    refine g_iload_n (npc := 16) dX11_keep_15 rfl rfl rfl ?_
    obtain ⟨h8, hT⟩ := hT
    refine g_zald (npc := 17) dX11_keep_16 rfl arSM_9 h8 ?_
    obtain ⟨h9, hTt, hTf⟩ := hT
    refine g_if_eq (npc := 20) (tgt := 24) dX11_keep_17 rfl (by decide) h9 (fun c10 => ?_) (fun c10 => ?_)
    · replace hT := hTt c10
      refine g_iconst (npc := 25) dX11_keep_24 rfl ?_
      refine g_istore_n (npc := 26) (l' := [(0, .ref 0), (1, iV x1), (2, iV 1)]) dX11_keep_25 rfl rfl (by decide) rfl ?_
      refine g_iconst (npc := 27) dX11_keep_26 rfl ?_
      refine g_istore_n (npc := 28) (l' := [(0, .ref 0), (1, iV x1), (2, iV 1), (3, iV 0)]) dX11_keep_27 rfl rfl (by decide) rfl ?_
      exact hT
    · replace hT := hTf c10
      refine g_iconst (npc := 21) dX11_keep_20 rfl ?_
      refine g_goto (npc := 25) dX11_keep_21 (by decide) ?_
      refine g_istore_n (npc := 26) (l' := [(0, .ref 0), (1, iV x1), (2, iV 0)]) dX11_keep_25 rfl rfl (by decide) rfl ?_
      refine g_iconst (npc := 27) dX11_keep_26 rfl ?_
      refine g_istore_n (npc := 28) (l' := [(0, .ref 0), (1, iV x1), (2, iV 0), (3, iV 0)]) dX11_keep_27 rfl rfl (by decide) rfl ?_
      exact hT
  · replace hT := hTf c7
    refine g_sipush (npc := 10) (x := (-10001)) dX11_keep_7 rfl (by decide) ?_
    exact g_iret dX11_keep_10 rfl rfl ⟨_, rfl, hT⟩
abbrev H_Mo_load_30 (Q : Int → Sto → Prop) (x1 : Int) (x2 : Int) (s : Sto) : Prop := Go SM M_Mo_load (fI Q) 30 [(0, .ref 0), (1, iV x1), (2, iV x2)] [] s
set_option maxRecDepth 20000 in
theorem b_Mo_load_30 {Q : Int → Sto → Prop} {x1 : Int} {x2 : Int} {s : Sto} (hT : (-2147483648 ≤ x2 ∧ x2 < 2147483648) ∧ ((8 ≤ x2) → ∃ Q18 : Int → Sto → Prop, K_Mo_sum s Q18 ∧ ∀ r21 s20, Q18 r21 s20 → Q r21 s20) ∧ ((x2 < 8) → (0 ≤ ((8 * x1) + x2) ∧ ((8 * x1) + x2) < 24) ∧ (0 ≤ x2 ∧ x2 < 8) ∧ ∀ s25, s25 = up s 5 (Int.toNat x2) (s 10 (Int.toNat ((8 * x1) + x2))) → H_Mo_load_30 Q x1 (x2 + 1) s25)) : H_Mo_load_30 Q x1 x2 s := by
  refine g_iload_n (npc := 31) dX11_load_30 rfl rfl rfl ?_
  refine g_bipush (npc := 33) (x := 8) dX11_load_31 rfl (by decide) ?_
  obtain ⟨h16, hTt, hTf⟩ := hT
  refine g_icmp_ge (npc := 36) (tgt := 59) dX11_load_33 rfl (by decide) ⟨h16, by decide, by decide⟩ (fun c17 => ?_) (fun c17 => ?_)
  · replace hT := hTt c17
    refine g_aload_n (npc := 60) dX11_load_59 rfl rfl rfl ?_
    obtain ⟨Q18, h19, hT⟩ := hT
    refine iv_Mo_123 (npc := 63) dX11_load_60 rfl rfl (Nat.le_of_ble_eq_true rfl) (by decide) h19 (fun r21 s20 e22 => ?_)
    replace hT := hT r21 s20 e22
    exact g_iret dX11_load_63 rfl rfl ⟨_, rfl, hT⟩
  · replace hT := hTf (Int.not_le.mp c17)
    refine g_aload_n (npc := 37) dX11_load_36 rfl rfl rfl ?_
    refine gf_Mo_22 (npc := 40) dX11_load_37 rfl rfl ?_
    refine g_iload_n (npc := 41) dX11_load_40 rfl rfl rfl ?_
    refine g_aload_n (npc := 42) dX11_load_41 rfl rfl rfl ?_
    refine gf_Mo_39 (npc := 45) dX11_load_42 rfl rfl ?_
    refine g_bipush (npc := 47) (x := 8) dX11_load_45 rfl (by decide) ?_
    refine g_iload_n (npc := 48) dX11_load_47 rfl rfl rfl ?_
    refine g_imul (npc := 49) dX11_load_48 rfl ?_
    refine g_iload_n (npc := 50) dX11_load_49 rfl rfl rfl ?_
    refine g_iadd (npc := 51) dX11_load_50 rfl ?_
    obtain ⟨h23, hT⟩ := hT
    refine g_iald (npc := 52) dX11_load_51 rfl arSM_10 h23 ?_
    obtain ⟨h24, hT⟩ := hT
    replace hT := hT _ rfl
    refine g_iast (npc := 53) dX11_load_52 rfl arSM_5 h24  ?_
    refine g_iinc (npc := 56) (y := (x2 + 1)) (l' := [(0, .ref 0), (1, iV x1), (2, iV (x2 + 1))]) dX11_load_53 rfl (by decide) rfl (by omega) rfl ?_
    refine g_goto (npc := 30) dX11_load_56 (by decide) ?_
    exact hT
set_option maxRecDepth 20000 in
theorem e_Mo_load {x1 : Int} {s : Sto} {Q : Int → Sto → Prop} (hT : ∃ Q1 : Int → Sto → Prop, K_Mo_noSlot x1 s Q1 ∧ ∀ r4 s3, Q1 r4 s3 → (-2147483648 ≤ r4 ∧ r4 < 2147483648) ∧ ((r4 = 0) → (0 ≤ x1 ∧ x1 < 3) ∧ (-2147483648 ≤ (s3 9 (Int.toNat x1)) ∧ (s3 9 (Int.toNat x1)) < 2147483648) ∧ ((¬ (s3 9 (Int.toNat x1)) = 0) → ∃ Q11 : Sto → Prop, K_Mo_keepState s3 Q11 ∧ ∀ s13, Q11 s13 → H_Mo_load_30 Q x1 0 s13) ∧ (((s3 9 (Int.toNat x1)) = 0) → Q (-10004) s3)) ∧ ((¬ r4 = 0) → Q (-10001) s3)) : K_Mo_load x1 s Q := by
  refine Sp.body (by decide) (Nat.le_of_ble_eq_true rfl) ?_
  show Go SM M_Mo_load (fI Q) 0 [(0, .ref 0), (1, iV x1)] [] s
  refine g_iload_n (npc := 1) dX11_load_0 rfl rfl rfl ?_
  obtain ⟨Q1, h2, hT⟩ := hT
  refine iv_Mo_183 (npc := 4) dX11_load_1 rfl rfl (Nat.le_of_ble_eq_true rfl) (by decide) h2 (fun r4 s3 e5 => ?_)
  replace hT := hT r4 s3 e5
  obtain ⟨h6, hTt, hTf⟩ := hT
  refine g_if_eq (npc := 7) (tgt := 11) dX11_load_4 rfl (by decide) h6 (fun c7 => ?_) (fun c7 => ?_)
  · replace hT := hTt c7
    refine g_aload_n (npc := 12) dX11_load_11 rfl rfl rfl ?_
    refine gf_Mo_35 (npc := 15) dX11_load_12 rfl rfl ?_
    refine g_iload_n (npc := 16) dX11_load_15 rfl rfl rfl ?_
    obtain ⟨h8, hT⟩ := hT
    refine g_zald (npc := 17) dX11_load_16 rfl arSM_9 h8 ?_
    obtain ⟨h9, hTt, hTf⟩ := hT
    refine g_if_ne (npc := 20) (tgt := 24) dX11_load_17 rfl (by decide) h9 (fun c10 => ?_) (fun c10 => ?_)
    · replace hT := hTt c10
      refine g_aload_n (npc := 25) dX11_load_24 rfl rfl rfl ?_
      obtain ⟨Q11, h12, hT⟩ := hT
      refine iv_Mo_133 (npc := 28) dX11_load_25 rfl rfl (Nat.le_of_ble_eq_true rfl) (by decide) h12 (fun s13 e15 => ?_)
      replace hT := hT s13 e15
      refine g_iconst (npc := 29) dX11_load_28 rfl ?_
      refine g_istore_n (npc := 30) (l' := [(0, .ref 0), (1, iV x1), (2, iV 0)]) dX11_load_29 rfl rfl (by decide) rfl ?_
      exact hT
    · replace hT := hTf (Decidable.not_not.mp c10)
      refine g_sipush (npc := 23) (x := (-10004)) dX11_load_20 rfl (by decide) ?_
      exact g_iret dX11_load_23 rfl rfl ⟨_, rfl, hT⟩
  · replace hT := hTf c7
    refine g_sipush (npc := 10) (x := (-10001)) dX11_load_7 rfl (by decide) ?_
    exact g_iret dX11_load_10 rfl rfl ⟨_, rfl, hT⟩
abbrev H_Mo_add_26 (Q : Int → Sto → Prop) (x1 : Int) (x2 : Int) (s : Sto) : Prop := Go SM M_Mo_add (fI Q) 26 [(0, .ref 0), (1, iV x1), (2, iV x2)] [] s
abbrev H_Mo_add_74 (Q : Int → Sto → Prop) (x1 : Int) (x2 : Int) (s : Sto) : Prop := Go SM M_Mo_add (fI Q) 74 [(0, .ref 0), (1, iV x1), (2, iV x2)] [] s
set_option maxRecDepth 20000 in
theorem b_Mo_add_26 {Q : Int → Sto → Prop} {x1 : Int} {x2 : Int} {s : Sto} (hT : ((-2147483648 ≤ x2 ∧ x2 < 2147483648) ∧ -2147483648 ≤ (s 0 0) ∧ (s 0 0) < 2147483648) ∧ (((s 0 0) ≤ x2) → ∃ Q13 : Sto → Prop, K_Mo_keepState s Q13 ∧ ∀ s15, Q13 s15 → H_Mo_add_74 Q x1 0 s15) ∧ ((x2 < (s 0 0)) → (0 ≤ x2 ∧ x2 < 8) ∧ (0 ≤ ((8 * x1) + x2) ∧ ((8 * x1) + x2) < 24) ∧ (-2147483648 ≤ ((s 5 (Int.toNat x2)) + (s 10 (Int.toNat ((8 * x1) + x2)))) ∧ ((s 5 (Int.toNat x2)) + (s 10 (Int.toNat ((8 * x1) + x2)))) < 2147483648) ∧ ((((s 5 (Int.toNat x2)) + (s 10 (Int.toNat ((8 * x1) + x2)))) ≤ 2000) → H_Mo_add_26 Q x1 (x2 + 1) s) ∧ ((2000 < ((s 5 (Int.toNat x2)) + (s 10 (Int.toNat ((8 * x1) + x2))))) → Q (-10005) s))) : H_Mo_add_26 Q x1 x2 s := by
  refine g_iload_n (npc := 27) dX11_add_26 rfl rfl rfl ?_
  refine g_aload_n (npc := 28) dX11_add_27 rfl rfl rfl ?_
  refine gf_Mo_77 (npc := 31) dX11_add_28 rfl rfl ?_
  obtain ⟨h11, hTt, hTf⟩ := hT
  refine g_icmp_ge (npc := 34) (tgt := 68) dX11_add_31 rfl (by decide) h11 (fun c12 => ?_) (fun c12 => ?_)
  · replace hT := hTt c12
    refine g_aload_n (npc := 69) dX11_add_68 rfl rfl rfl ?_
    obtain ⟨Q13, h14, hT⟩ := hT
    refine iv_Mo_133 (npc := 72) dX11_add_69 rfl rfl (Nat.le_of_ble_eq_true rfl) (by decide) h14 (fun s15 e17 => ?_)
    replace hT := hT s15 e17
    refine g_iconst (npc := 73) dX11_add_72 rfl ?_
    refine g_istore_n (npc := 74) (l' := [(0, .ref 0), (1, iV x1), (2, iV 0)]) dX11_add_73 rfl rfl (by decide) rfl ?_
    exact hT
  · replace hT := hTf (Int.not_le.mp c12)
    refine g_aload_n (npc := 35) dX11_add_34 rfl rfl rfl ?_
    refine gf_Mo_22 (npc := 38) dX11_add_35 rfl rfl ?_
    refine g_iload_n (npc := 39) dX11_add_38 rfl rfl rfl ?_
    obtain ⟨h18, hT⟩ := hT
    refine g_iald (npc := 40) dX11_add_39 rfl arSM_5 h18 ?_
    refine g_aload_n (npc := 41) dX11_add_40 rfl rfl rfl ?_
    refine gf_Mo_39 (npc := 44) dX11_add_41 rfl rfl ?_
    refine g_bipush (npc := 46) (x := 8) dX11_add_44 rfl (by decide) ?_
    refine g_iload_n (npc := 47) dX11_add_46 rfl rfl rfl ?_
    refine g_imul (npc := 48) dX11_add_47 rfl ?_
    refine g_iload_n (npc := 49) dX11_add_48 rfl rfl rfl ?_
    refine g_iadd (npc := 50) dX11_add_49 rfl ?_
    obtain ⟨h19, hT⟩ := hT
    refine g_iald (npc := 51) dX11_add_50 rfl arSM_10 h19 ?_
    refine g_iadd (npc := 52) dX11_add_51 rfl ?_
    refine g_sipush (npc := 55) (x := 2000) dX11_add_52 rfl (by decide) ?_
    obtain ⟨h20, hTt, hTf⟩ := hT
    refine g_icmp_le (npc := 58) (tgt := 62) dX11_add_55 rfl (by decide) ⟨h20, by decide, by decide⟩ (fun c21 => ?_) (fun c21 => ?_)
    · replace hT := hTt c21
      refine g_iinc (npc := 65) (y := (x2 + 1)) (l' := [(0, .ref 0), (1, iV x1), (2, iV (x2 + 1))]) dX11_add_62 rfl (by decide) rfl (by omega) rfl ?_
      refine g_goto (npc := 26) dX11_add_65 (by decide) ?_
      exact hT
    · replace hT := hTf (Int.not_le.mp c21)
      refine g_sipush (npc := 61) (x := (-10005)) dX11_add_58 rfl (by decide) ?_
      exact g_iret dX11_add_61 rfl rfl ⟨_, rfl, hT⟩
set_option maxRecDepth 20000 in
theorem b_Mo_add_74 {Q : Int → Sto → Prop} {x1 : Int} {x2 : Int} {s : Sto} (hT : ((-2147483648 ≤ x2 ∧ x2 < 2147483648) ∧ -2147483648 ≤ (s 0 0) ∧ (s 0 0) < 2147483648) ∧ (((s 0 0) ≤ x2) → ∃ Q24 : Int → Sto → Prop, K_Mo_sum s Q24 ∧ ∀ r27 s26, Q24 r27 s26 → Q r27 s26) ∧ ((x2 < (s 0 0)) → (0 ≤ x2 ∧ x2 < 8) ∧ (0 ≤ ((8 * x1) + x2) ∧ ((8 * x1) + x2) < 24) ∧ (0 ≤ x2 ∧ x2 < 8) ∧ ∀ s32, s32 = up s 5 (Int.toNat x2) ((s 5 (Int.toNat x2)) + (s 10 (Int.toNat ((8 * x1) + x2)))) → H_Mo_add_74 Q x1 (x2 + 1) s32)) : H_Mo_add_74 Q x1 x2 s := by
  refine g_iload_n (npc := 75) dX11_add_74 rfl rfl rfl ?_
  refine g_aload_n (npc := 76) dX11_add_75 rfl rfl rfl ?_
  refine gf_Mo_77 (npc := 79) dX11_add_76 rfl rfl ?_
  obtain ⟨h22, hTt, hTf⟩ := hT
  refine g_icmp_ge (npc := 82) (tgt := 108) dX11_add_79 rfl (by decide) h22 (fun c23 => ?_) (fun c23 => ?_)
  · replace hT := hTt c23
    refine g_aload_n (npc := 109) dX11_add_108 rfl rfl rfl ?_
    obtain ⟨Q24, h25, hT⟩ := hT
    refine iv_Mo_123 (npc := 112) dX11_add_109 rfl rfl (Nat.le_of_ble_eq_true rfl) (by decide) h25 (fun r27 s26 e28 => ?_)
    replace hT := hT r27 s26 e28
    exact g_iret dX11_add_112 rfl rfl ⟨_, rfl, hT⟩
  · replace hT := hTf (Int.not_le.mp c23)
    refine g_aload_n (npc := 83) dX11_add_82 rfl rfl rfl ?_
    refine gf_Mo_22 (npc := 86) dX11_add_83 rfl rfl ?_
    refine g_iload_n (npc := 87) dX11_add_86 rfl rfl rfl ?_
    refine g_dup2 (npc := 88) dX11_add_87 rfl rfl rfl ?_
    obtain ⟨h29, hT⟩ := hT
    refine g_iald (npc := 89) dX11_add_88 rfl arSM_5 h29 ?_
    refine g_aload_n (npc := 90) dX11_add_89 rfl rfl rfl ?_
    refine gf_Mo_39 (npc := 93) dX11_add_90 rfl rfl ?_
    refine g_bipush (npc := 95) (x := 8) dX11_add_93 rfl (by decide) ?_
    refine g_iload_n (npc := 96) dX11_add_95 rfl rfl rfl ?_
    refine g_imul (npc := 97) dX11_add_96 rfl ?_
    refine g_iload_n (npc := 98) dX11_add_97 rfl rfl rfl ?_
    refine g_iadd (npc := 99) dX11_add_98 rfl ?_
    obtain ⟨h30, hT⟩ := hT
    refine g_iald (npc := 100) dX11_add_99 rfl arSM_10 h30 ?_
    refine g_iadd (npc := 101) dX11_add_100 rfl ?_
    obtain ⟨h31, hT⟩ := hT
    replace hT := hT _ rfl
    refine g_iast (npc := 102) dX11_add_101 rfl arSM_5 h31  ?_
    refine g_iinc (npc := 105) (y := (x2 + 1)) (l' := [(0, .ref 0), (1, iV x1), (2, iV (x2 + 1))]) dX11_add_102 rfl (by decide) rfl (by omega) rfl ?_
    refine g_goto (npc := 74) dX11_add_105 (by decide) ?_
    exact hT
set_option maxRecDepth 20000 in
theorem e_Mo_add {x1 : Int} {s : Sto} {Q : Int → Sto → Prop} (hT : ∃ Q1 : Int → Sto → Prop, K_Mo_noSlot x1 s Q1 ∧ ∀ r4 s3, Q1 r4 s3 → (-2147483648 ≤ r4 ∧ r4 < 2147483648) ∧ ((r4 = 0) → (0 ≤ x1 ∧ x1 < 3) ∧ (-2147483648 ≤ (s3 9 (Int.toNat x1)) ∧ (s3 9 (Int.toNat x1)) < 2147483648) ∧ ((¬ (s3 9 (Int.toNat x1)) = 0) → H_Mo_add_26 Q x1 0 s3) ∧ (((s3 9 (Int.toNat x1)) = 0) → Q (-10004) s3)) ∧ ((¬ r4 = 0) → Q (-10001) s3)) : K_Mo_add x1 s Q := by
  refine Sp.body (by decide) (Nat.le_of_ble_eq_true rfl) ?_
  show Go SM M_Mo_add (fI Q) 0 [(0, .ref 0), (1, iV x1)] [] s
  refine g_iload_n (npc := 1) dX11_add_0 rfl rfl rfl ?_
  obtain ⟨Q1, h2, hT⟩ := hT
  refine iv_Mo_183 (npc := 4) dX11_add_1 rfl rfl (Nat.le_of_ble_eq_true rfl) (by decide) h2 (fun r4 s3 e5 => ?_)
  replace hT := hT r4 s3 e5
  obtain ⟨h6, hTt, hTf⟩ := hT
  refine g_if_eq (npc := 7) (tgt := 11) dX11_add_4 rfl (by decide) h6 (fun c7 => ?_) (fun c7 => ?_)
  · replace hT := hTt c7
    refine g_aload_n (npc := 12) dX11_add_11 rfl rfl rfl ?_
    refine gf_Mo_35 (npc := 15) dX11_add_12 rfl rfl ?_
    refine g_iload_n (npc := 16) dX11_add_15 rfl rfl rfl ?_
    obtain ⟨h8, hT⟩ := hT
    refine g_zald (npc := 17) dX11_add_16 rfl arSM_9 h8 ?_
    obtain ⟨h9, hTt, hTf⟩ := hT
    refine g_if_ne (npc := 20) (tgt := 24) dX11_add_17 rfl (by decide) h9 (fun c10 => ?_) (fun c10 => ?_)
    · replace hT := hTt c10
      refine g_iconst (npc := 25) dX11_add_24 rfl ?_
      refine g_istore_n (npc := 26) (l' := [(0, .ref 0), (1, iV x1), (2, iV 0)]) dX11_add_25 rfl rfl (by decide) rfl ?_
      exact hT
    · replace hT := hTf (Decidable.not_not.mp c10)
      refine g_sipush (npc := 23) (x := (-10004)) dX11_add_20 rfl (by decide) ?_
      exact g_iret dX11_add_23 rfl rfl ⟨_, rfl, hT⟩
  · replace hT := hTf c7
    refine g_sipush (npc := 10) (x := (-10001)) dX11_add_7 rfl (by decide) ?_
    exact g_iret dX11_add_10 rfl rfl ⟨_, rfl, hT⟩
abbrev H_Mo_isSameClass_49 (Q : Int → Sto → Prop) (x1 : Int) (x2 : Int) (s : Sto) : Prop := Go SM M_Mo_isSameClass (fI Q) 49 [(0, .ref 0), (1, iV x1), (2, iV x2)] [] s
set_option maxRecDepth 20000 in
theorem b_Mo_isSameClass_49 {Q : Int → Sto → Prop} {x1 : Int} {x2 : Int} {s : Sto} (hT : (-2147483648 ≤ x2 ∧ x2 < 2147483648) ∧ ((8 ≤ x2) → ∃ Q25 : Int → Sto → Prop, K_Mo_lower 12 s Q25 ∧ ∀ r28 s27, Q25 r28 s27 → ∃ Q30 : Int → Sto → Prop, K_Mo_lower 15 s27 Q30 ∧ ∀ r33 s32, Q30 r33 s32 → ∃ Q35 : Int → Sto → Prop, K_Mo_areSame 12 15 s32 Q35 ∧ ∀ r38 s37, Q35 r38 s37 → (-2147483648 ≤ r38 ∧ r38 < 2147483648) ∧ ((r38 = 0) → Q 0 s37) ∧ ((¬ r38 = 0) → Q 1 s37)) ∧ ((x2 < 8) → (0 ≤ ((8 * x1) + x2) ∧ ((8 * x1) + x2) < 24) ∧ (0 ≤ x2 ∧ x2 < 8) ∧ ∀ s44, s44 = up s 15 (Int.toNat x2) (s 10 (Int.toNat ((8 * x1) + x2))) → H_Mo_isSameClass_49 Q x1 (x2 + 1) s44)) : H_Mo_isSameClass_49 Q x1 x2 s := by
  refine g_iload_n (npc := 50) dX11_isSameClass_49 rfl rfl rfl ?_
  refine g_bipush (npc := 52) (x := 8) dX11_isSameClass_50 rfl (by decide) ?_
  obtain ⟨h23, hTt, hTf⟩ := hT
  refine g_icmp_ge (npc := 55) (tgt := 78) dX11_isSameClass_52 rfl (by decide) ⟨h23, by decide, by decide⟩ (fun c24 => ?_) (fun c24 => ?_)
  · replace hT := hTt c24
    refine g_aload_n (npc := 79) dX11_isSameClass_78 rfl rfl rfl ?_
    refine g_aload_n (npc := 80) dX11_isSameClass_79 rfl rfl rfl ?_
    refine gf_Mo_45 (npc := 83) dX11_isSameClass_80 rfl rfl ?_
    obtain ⟨Q25, h26, hT⟩ := hT
    refine iv_Mo_167 (npc := 86) dX11_isSameClass_83 rfl rfl (Nat.le_of_ble_eq_true rfl) (by decide) h26 (fun r28 s27 e29 => ?_)
    replace hT := hT r28 s27 e29
    refine g_pop (npc := 87) dX11_isSameClass_86 rfl rfl ?_
    refine g_aload_n (npc := 88) dX11_isSameClass_87 rfl rfl rfl ?_
    refine g_aload_n (npc := 89) dX11_isSameClass_88 rfl rfl rfl ?_
    refine gf_Mo_54 (npc := 92) dX11_isSameClass_89 rfl rfl ?_
    obtain ⟨Q30, h31, hT⟩ := hT
    refine iv_Mo_167 (npc := 95) dX11_isSameClass_92 rfl rfl (Nat.le_of_ble_eq_true rfl) (by decide) h31 (fun r33 s32 e34 => ?_)
    replace hT := hT r33 s32 e34
    refine g_pop (npc := 96) dX11_isSameClass_95 rfl rfl ?_
    refine g_aload_n (npc := 97) dX11_isSameClass_96 rfl rfl rfl ?_
    refine gf_Mo_45 (npc := 100) dX11_isSameClass_97 rfl rfl ?_
    refine g_aload_n (npc := 101) dX11_isSameClass_100 rfl rfl rfl ?_
    refine gf_Mo_54 (npc := 104) dX11_isSameClass_101 rfl rfl ?_
    obtain ⟨Q35, h36, hT⟩ := hT
    refine iv_Mo_173 (npc := 107) dX11_isSameClass_104 rfl rfl (Nat.le_of_ble_eq_true rfl) (by decide) h36 (fun r38 s37 e39 => ?_)
    replace hT := hT r38 s37 e39
    obtain ⟨h40, hTt, hTf⟩ := hT
    refine g_if_eq (npc := 110) (tgt := 114) dX11_isSameClass_107 rfl (by decide) h40 (fun c41 => ?_) (fun c41 => ?_)
    · replace hT := hTt c41
      refine g_iconst (npc := 115) dX11_isSameClass_114 rfl ?_
      exact g_iret dX11_isSameClass_115 rfl rfl ⟨_, rfl, hT⟩
    · replace hT := hTf c41
      refine g_iconst (npc := 111) dX11_isSameClass_110 rfl ?_
      refine g_goto (npc := 115) dX11_isSameClass_111 (by decide) ?_
      exact g_iret dX11_isSameClass_115 rfl rfl ⟨_, rfl, hT⟩
  · replace hT := hTf (Int.not_le.mp c24)
    refine g_aload_n (npc := 56) dX11_isSameClass_55 rfl rfl rfl ?_
    refine gf_Mo_54 (npc := 59) dX11_isSameClass_56 rfl rfl ?_
    refine g_iload_n (npc := 60) dX11_isSameClass_59 rfl rfl rfl ?_
    refine g_aload_n (npc := 61) dX11_isSameClass_60 rfl rfl rfl ?_
    refine gf_Mo_39 (npc := 64) dX11_isSameClass_61 rfl rfl ?_
    refine g_bipush (npc := 66) (x := 8) dX11_isSameClass_64 rfl (by decide) ?_
    refine g_iload_n (npc := 67) dX11_isSameClass_66 rfl rfl rfl ?_
    refine g_imul (npc := 68) dX11_isSameClass_67 rfl ?_
    refine g_iload_n (npc := 69) dX11_isSameClass_68 rfl rfl rfl ?_
    refine g_iadd (npc := 70) dX11_isSameClass_69 rfl ?_
    obtain ⟨h42, hT⟩ := hT
    refine g_iald (npc := 71) dX11_isSameClass_70 rfl arSM_10 h42 ?_
    obtain ⟨h43, hT⟩ := hT
    replace hT := hT _ rfl
    refine g_iast (npc := 72) dX11_isSameClass_71 rfl arSM_15 h43  ?_
    refine g_iinc (npc := 75) (y := (x2 + 1)) (l' := [(0, .ref 0), (1, iV x1), (2, iV (x2 + 1))]) dX11_isSameClass_72 rfl (by decide) rfl (by omega) rfl ?_
    refine g_goto (npc := 49) dX11_isSameClass_75 (by decide) ?_
    exact hT
set_option maxRecDepth 20000 in
theorem e_Mo_isSameClass {x1 : Int} {s : Sto} {Q : Int → Sto → Prop} (hT : ∃ Q1 : Int → Sto → Prop, K_Mo_noSlot x1 s Q1 ∧ ∀ r4 s3, Q1 r4 s3 → (-2147483648 ≤ r4 ∧ r4 < 2147483648) ∧ ((r4 = 0) → (0 ≤ x1 ∧ x1 < 3) ∧ (-2147483648 ≤ (s3 9 (Int.toNat x1)) ∧ (s3 9 (Int.toNat x1)) < 2147483648) ∧ ((¬ (s3 9 (Int.toNat x1)) = 0) → ∃ Q11 : Int → Sto → Prop, K_Mo_isConnected s3 Q11 ∧ ∀ r14 s13, Q11 r14 s13 → (-2147483648 ≤ r14 ∧ r14 < 2147483648) ∧ ((¬ r14 = 0) → ∃ Q18 : Sto → Prop, K_Mo_copy 5 12 s13 Q18 ∧ ∀ s20, Q18 s20 → H_Mo_isSameClass_49 Q x1 0 s20) ∧ ((r14 = 0) → Q (-10003) s13)) ∧ (((s3 9 (Int.toNat x1)) = 0) → Q (-10004) s3)) ∧ ((¬ r4 = 0) → Q (-10001) s3)) : K_Mo_isSameClass x1 s Q := by
  refine Sp.body (by decide) (Nat.le_of_ble_eq_true rfl) ?_
  show Go SM M_Mo_isSameClass (fI Q) 0 [(0, .ref 0), (1, iV x1)] [] s
  refine g_iload_n (npc := 1) dX11_isSameClass_0 rfl rfl rfl ?_
  obtain ⟨Q1, h2, hT⟩ := hT
  refine iv_Mo_183 (npc := 4) dX11_isSameClass_1 rfl rfl (Nat.le_of_ble_eq_true rfl) (by decide) h2 (fun r4 s3 e5 => ?_)
  replace hT := hT r4 s3 e5
  obtain ⟨h6, hTt, hTf⟩ := hT
  refine g_if_eq (npc := 7) (tgt := 11) dX11_isSameClass_4 rfl (by decide) h6 (fun c7 => ?_) (fun c7 => ?_)
  · replace hT := hTt c7
    refine g_aload_n (npc := 12) dX11_isSameClass_11 rfl rfl rfl ?_
    refine gf_Mo_35 (npc := 15) dX11_isSameClass_12 rfl rfl ?_
    refine g_iload_n (npc := 16) dX11_isSameClass_15 rfl rfl rfl ?_
    obtain ⟨h8, hT⟩ := hT
    refine g_zald (npc := 17) dX11_isSameClass_16 rfl arSM_9 h8 ?_
    obtain ⟨h9, hTt, hTf⟩ := hT
    refine g_if_ne (npc := 20) (tgt := 24) dX11_isSameClass_17 rfl (by decide) h9 (fun c10 => ?_) (fun c10 => ?_)
    · replace hT := hTt c10
      refine g_aload_n (npc := 25) dX11_isSameClass_24 rfl rfl rfl ?_
      obtain ⟨Q11, h12, hT⟩ := hT
      refine iv_Mo_119 (npc := 28) dX11_isSameClass_25 rfl rfl (Nat.le_of_ble_eq_true rfl) (by decide) h12 (fun r14 s13 e15 => ?_)
      replace hT := hT r14 s13 e15
      obtain ⟨h16, hTt, hTf⟩ := hT
      refine g_if_ne (npc := 31) (tgt := 35) dX11_isSameClass_28 rfl (by decide) h16 (fun c17 => ?_) (fun c17 => ?_)
      · replace hT := hTt c17
        refine g_aload_n (npc := 36) dX11_isSameClass_35 rfl rfl rfl ?_
        refine g_aload_n (npc := 37) dX11_isSameClass_36 rfl rfl rfl ?_
        refine gf_Mo_22 (npc := 40) dX11_isSameClass_37 rfl rfl ?_
        refine g_aload_n (npc := 41) dX11_isSameClass_40 rfl rfl rfl ?_
        refine gf_Mo_45 (npc := 44) dX11_isSameClass_41 rfl rfl ?_
        obtain ⟨Q18, h19, hT⟩ := hT
        refine iv_Mo_148 (npc := 47) dX11_isSameClass_44 rfl rfl (Nat.le_of_ble_eq_true rfl) (by decide) h19 (fun s20 e22 => ?_)
        replace hT := hT s20 e22
        refine g_iconst (npc := 48) dX11_isSameClass_47 rfl ?_
        refine g_istore_n (npc := 49) (l' := [(0, .ref 0), (1, iV x1), (2, iV 0)]) dX11_isSameClass_48 rfl rfl (by decide) rfl ?_
        exact hT
      · replace hT := hTf (Decidable.not_not.mp c17)
        refine g_sipush (npc := 34) (x := (-10003)) dX11_isSameClass_31 rfl (by decide) ?_
        exact g_iret dX11_isSameClass_34 rfl rfl ⟨_, rfl, hT⟩
    · replace hT := hTf (Decidable.not_not.mp c10)
      refine g_sipush (npc := 23) (x := (-10004)) dX11_isSameClass_20 rfl (by decide) ?_
      exact g_iret dX11_isSameClass_23 rfl rfl ⟨_, rfl, hT⟩
  · replace hT := hTf c7
    refine g_sipush (npc := 10) (x := (-10001)) dX11_isSameClass_7 rfl (by decide) ?_
    exact g_iret dX11_isSameClass_10 rfl rfl ⟨_, rfl, hT⟩
abbrev H_Mo_layMatrix_4 (Q : Sto → Prop) (x1 : Int) (x2 : Int) (s : Sto) : Prop := Go SM M_Mo_layMatrix (fV0 Q) 4 [(0, .ref 0), (1, iV x1), (2, iV x2)] [] s
abbrev H_Mo_layMatrix_17 (Q : Sto → Prop) (x1 : Int) (x2 : Int) (x3 : Int) (x4 : Int) (s : Sto) : Prop := Go SM M_Mo_layMatrix (fV0 Q) 17 [(0, .ref 0), (1, iV x1), (2, iV x2), (3, iV x3), (4, iV x4)] [] s
set_option maxRecDepth 20000 in
theorem b_Mo_layMatrix_4 {Q : Sto → Prop} {x1 : Int} {x2 : Int} {s : Sto} (hT : ((-2147483648 ≤ x2 ∧ x2 < 2147483648) ∧ -2147483648 ≤ (s 0 0) ∧ (s 0 0) < 2147483648) ∧ (((s 0 0) ≤ x2) → Q s) ∧ ((x2 < (s 0 0)) → H_Mo_layMatrix_17 Q x1 x2 0 0 s)) : H_Mo_layMatrix_4 Q x1 x2 s := by
  refine g_iload_n (npc := 5) dX11_layMatrix_4 rfl rfl rfl ?_
  refine g_aload_n (npc := 6) dX11_layMatrix_5 rfl rfl rfl ?_
  refine gf_Mo_77 (npc := 9) dX11_layMatrix_6 rfl rfl ?_
  obtain ⟨h1, hTt, hTf⟩ := hT
  refine g_icmp_ge (npc := 12) (tgt := 115) dX11_layMatrix_9 rfl (by decide) h1 (fun c2 => ?_) (fun c2 => ?_)
  · replace hT := hTt c2
    exact g_ret dX11_layMatrix_115 rfl ⟨rfl, hT⟩
  · replace hT := hTf (Int.not_le.mp c2)
    refine g_iconst (npc := 13) dX11_layMatrix_12 rfl ?_
    refine g_istore_n (npc := 14) (l' := [(0, .ref 0), (1, iV x1), (2, iV x2), (3, iV 0)]) dX11_layMatrix_13 rfl rfl (by decide) rfl ?_
    refine g_iconst (npc := 15) dX11_layMatrix_14 rfl ?_
    refine g_istore (npc := 17) (l' := [(0, .ref 0), (1, iV x1), (2, iV x2), (3, iV 0), (4, iV 0)]) dX11_layMatrix_15 rfl (by decide) rfl ?_
    exact hT
set_option maxRecDepth 20000 in
theorem b_Mo_layMatrix_17 {Q : Sto → Prop} {x1 : Int} {x2 : Int} {x3 : Int} {x4 : Int} {s : Sto} (hT : ∃ J19 : Prop, (J19 → ((-2147483648 ≤ x2 ∧ x2 < 2147483648) ∧ -2147483648 ≤ (s 0 2) ∧ (s 0 2) < 2147483648) ∧ ((¬ x2 = (s 0 2)) → H_Mo_layMatrix_4 Q (x1 + 1) (x2 + 1) s) ∧ ((x2 = (s 0 2)) → H_Mo_layMatrix_4 Q (x1 + 0) (x2 + 1) s)) ∧ ((-2147483648 ≤ x4 ∧ x4 < 2147483648) ∧ -2147483648 ≤ (s 0 0) ∧ (s 0 0) < 2147483648) ∧ (((s 0 0) ≤ x4) → J19) ∧ ((x4 < (s 0 0)) → ((-2147483648 ≤ x2 ∧ x2 < 2147483648) ∧ -2147483648 ≤ (s 0 2) ∧ (s 0 2) < 2147483648) ∧ ((x2 = (s 0 2)) → J19) ∧ ((¬ x2 = (s 0 2)) → ((-2147483648 ≤ x4 ∧ x4 < 2147483648) ∧ -2147483648 ≤ (s 0 2) ∧ (s 0 2) < 2147483648) ∧ ((x4 = (s 0 2)) → H_Mo_layMatrix_17 Q x1 x2 x3 (x4 + 1) s) ∧ ((¬ x4 = (s 0 2)) → ((-2147483648 ≤ x2 ∧ x2 < 2147483648) ∧ -2147483648 ≤ x4 ∧ x4 < 2147483648) ∧ ((¬ x2 = x4) → (0 ≤ ((8 * x2) + x4) ∧ ((8 * x2) + x4) < 64) ∧ (-2147483648 ≤ (-(s 3 (Int.toNat ((8 * x2) + x4)))) ∧ (-(s 3 (Int.toNat ((8 * x2) + x4)))) < 2147483648) ∧ (0 ≤ ((7 * x1) + x3) ∧ ((7 * x1) + x3) < 49) ∧ ∀ s35, s35 = up s 16 (Int.toNat ((7 * x1) + x3)) (-(s 3 (Int.toNat ((8 * x2) + x4)))) → H_Mo_layMatrix_17 Q x1 x2 (x3 + 1) (x4 + 1) s35) ∧ ((x2 = x4) → (0 ≤ x2 ∧ x2 < 8) ∧ (-2147483648 ≤ (s 4 (Int.toNat x2)) ∧ (s 4 (Int.toNat x2)) < 2147483648) ∧ (0 ≤ ((7 * x1) + x3) ∧ ((7 * x1) + x3) < 49) ∧ ∀ s39, s39 = up s 16 (Int.toNat ((7 * x1) + x3)) (s 4 (Int.toNat x2)) → H_Mo_layMatrix_17 Q x1 x2 (x3 + 1) (x4 + 1) s39))))) : H_Mo_layMatrix_17 Q x1 x2 x3 x4 s := by
  refine g_iload (npc := 19) dX11_layMatrix_17 rfl rfl ?_
  refine g_aload_n (npc := 20) dX11_layMatrix_19 rfl rfl rfl ?_
  refine gf_Mo_77 (npc := 23) dX11_layMatrix_20 rfl rfl ?_
  obtain ⟨J19, hT⟩ := hT
  obtain ⟨hj24, hT⟩ := hT
  have K25 : J19 → Go SM M_Mo_layMatrix (fV0 Q) 93 [(0, .ref 0), (1, iV x1), (2, iV x2)] [] s := by
    intro  q40
    replace hT := hj24  q40
    refine g_iload_n (npc := 94) dX11_layMatrix_93 rfl rfl rfl ?_
    refine g_iload_n (npc := 95) dX11_layMatrix_94 rfl rfl rfl ?_
    refine g_aload_n (npc := 96) dX11_layMatrix_95 rfl rfl rfl ?_
    refine gf_Mo_84 (npc := 99) dX11_layMatrix_96 rfl rfl ?_
    obtain ⟨h22, hTt, hTf⟩ := hT
    refine g_icmp_ne (npc := 102) (tgt := 106) dX11_layMatrix_99 rfl (by decide) h22 (fun c23 => ?_) (fun c23 => ?_)
    · replace hT := hTt c23
      refine g_iconst (npc := 107) dX11_layMatrix_106 rfl ?_
      refine g_iadd (npc := 108) dX11_layMatrix_107 rfl ?_
      refine g_istore_n (npc := 109) (l' := [(0, .ref 0), (1, iV (x1 + 1)), (2, iV x2)]) dX11_layMatrix_108 rfl rfl (by decide) rfl ?_
      refine g_iinc (npc := 112) (y := (x2 + 1)) (l' := [(0, .ref 0), (1, iV (x1 + 1)), (2, iV (x2 + 1))]) dX11_layMatrix_109 rfl (by decide) rfl (by omega) rfl ?_
      refine g_goto (npc := 4) dX11_layMatrix_112 (by decide) ?_
      exact hT
    · replace hT := hTf (Decidable.not_not.mp c23)
      refine g_iconst (npc := 103) dX11_layMatrix_102 rfl ?_
      refine g_goto (npc := 107) dX11_layMatrix_103 (by decide) ?_
      refine g_iadd (npc := 108) dX11_layMatrix_107 rfl ?_
      refine g_istore_n (npc := 109) (l' := [(0, .ref 0), (1, iV (x1 + 0)), (2, iV x2)]) dX11_layMatrix_108 rfl rfl (by decide) rfl ?_
      refine g_iinc (npc := 112) (y := (x2 + 1)) (l' := [(0, .ref 0), (1, iV (x1 + 0)), (2, iV (x2 + 1))]) dX11_layMatrix_109 rfl (by decide) rfl (by omega) rfl ?_
      refine g_goto (npc := 4) dX11_layMatrix_112 (by decide) ?_
      exact hT
  obtain ⟨h20, hTt, hTf⟩ := hT
  refine g_icmp_ge (npc := 26) (tgt := 93) dX11_layMatrix_23 rfl (by decide) h20 (fun c21 => ?_) (fun c21 => ?_)
  · replace hT := hTt c21
    refine Go.lsub [0, 1, 2] rfl ?_
    exact K25  hT
  · replace hT := hTf (Int.not_le.mp c21)
    refine g_iload_n (npc := 27) dX11_layMatrix_26 rfl rfl rfl ?_
    refine g_aload_n (npc := 28) dX11_layMatrix_27 rfl rfl rfl ?_
    refine gf_Mo_84 (npc := 31) dX11_layMatrix_28 rfl rfl ?_
    obtain ⟨h26, hTt, hTf⟩ := hT
    refine g_icmp_eq (npc := 34) (tgt := 93) dX11_layMatrix_31 rfl (by decide) h26 (fun c27 => ?_) (fun c27 => ?_)
    · replace hT := hTt c27
      refine Go.lsub [0, 1, 2] rfl ?_
      exact K25  hT
    · replace hT := hTf c27
      refine g_iload (npc := 36) dX11_layMatrix_34 rfl rfl ?_
      refine g_aload_n (npc := 37) dX11_layMatrix_36 rfl rfl rfl ?_
      refine gf_Mo_84 (npc := 40) dX11_layMatrix_37 rfl rfl ?_
      obtain ⟨h28, hTt, hTf⟩ := hT
      refine g_icmp_eq (npc := 43) (tgt := 87) dX11_layMatrix_40 rfl (by decide) h28 (fun c29 => ?_) (fun c29 => ?_)
      · replace hT := hTt c29
        refine g_iinc (npc := 90) (y := (x4 + 1)) (l' := [(0, .ref 0), (1, iV x1), (2, iV x2), (3, iV x3), (4, iV (x4 + 1))]) dX11_layMatrix_87 rfl (by decide) rfl (by omega) rfl ?_
        refine g_goto (npc := 17) dX11_layMatrix_90 (by decide) ?_
        exact hT
      · replace hT := hTf c29
        refine g_aload_n (npc := 44) dX11_layMatrix_43 rfl rfl rfl ?_
        refine gf_Mo_57 (npc := 47) dX11_layMatrix_44 rfl rfl ?_
        refine g_bipush (npc := 49) (x := 7) dX11_layMatrix_47 rfl (by decide) ?_
        refine g_iload_n (npc := 50) dX11_layMatrix_49 rfl rfl rfl ?_
        refine g_imul (npc := 51) dX11_layMatrix_50 rfl ?_
        refine g_iload_n (npc := 52) dX11_layMatrix_51 rfl rfl rfl ?_
        refine g_iadd (npc := 53) dX11_layMatrix_52 rfl ?_
        refine g_iload_n (npc := 54) dX11_layMatrix_53 rfl rfl rfl ?_
        refine g_iload (npc := 56) dX11_layMatrix_54 rfl rfl ?_
        obtain ⟨h30, hTt, hTf⟩ := hT
        refine g_icmp_ne (npc := 59) (tgt := 69) dX11_layMatrix_56 rfl (by decide) h30 (fun c31 => ?_) (fun c31 => ?_)
        · replace hT := hTt c31
          refine g_aload_n (npc := 70) dX11_layMatrix_69 rfl rfl rfl ?_
          refine gf_Mo_16 (npc := 73) dX11_layMatrix_70 rfl rfl ?_
          refine g_bipush (npc := 75) (x := 8) dX11_layMatrix_73 rfl (by decide) ?_
          refine g_iload_n (npc := 76) dX11_layMatrix_75 rfl rfl rfl ?_
          refine g_imul (npc := 77) dX11_layMatrix_76 rfl ?_
          refine g_iload (npc := 79) dX11_layMatrix_77 rfl rfl ?_
          refine g_iadd (npc := 80) dX11_layMatrix_79 rfl ?_
          obtain ⟨h32, hT⟩ := hT
          refine g_iald (npc := 81) dX11_layMatrix_80 rfl arSM_3 h32 ?_
          refine g_ineg (npc := 82) dX11_layMatrix_81 rfl ?_
          obtain ⟨h33, hT⟩ := hT
          refine g_i2l (npc := 83) dX11_layMatrix_82 rfl h33 ?_
          obtain ⟨h34, hT⟩ := hT
          replace hT := hT _ rfl
          refine g_last (npc := 84) dX11_layMatrix_83 rfl arSM_16 h34  ?_
          refine g_iinc (npc := 87) (y := (x3 + 1)) (l' := [(0, .ref 0), (1, iV x1), (2, iV x2), (3, iV (x3 + 1)), (4, iV x4)]) dX11_layMatrix_84 rfl (by decide) rfl (by omega) rfl ?_
          refine g_iinc (npc := 90) (y := (x4 + 1)) (l' := [(0, .ref 0), (1, iV x1), (2, iV x2), (3, iV (x3 + 1)), (4, iV (x4 + 1))]) dX11_layMatrix_87 rfl (by decide) rfl (by omega) rfl ?_
          refine g_goto (npc := 17) dX11_layMatrix_90 (by decide) ?_
          exact hT
        · replace hT := hTf (Decidable.not_not.mp c31)
          refine g_aload_n (npc := 60) dX11_layMatrix_59 rfl rfl rfl ?_
          refine gf_Mo_19 (npc := 63) dX11_layMatrix_60 rfl rfl ?_
          refine g_iload_n (npc := 64) dX11_layMatrix_63 rfl rfl rfl ?_
          obtain ⟨h36, hT⟩ := hT
          refine g_iald (npc := 65) dX11_layMatrix_64 rfl arSM_4 h36 ?_
          obtain ⟨h37, hT⟩ := hT
          refine g_i2l (npc := 66) dX11_layMatrix_65 rfl h37 ?_
          refine g_goto (npc := 83) dX11_layMatrix_66 (by decide) ?_
          obtain ⟨h38, hT⟩ := hT
          replace hT := hT _ rfl
          refine g_last (npc := 84) dX11_layMatrix_83 rfl arSM_16 h38  ?_
          refine g_iinc (npc := 87) (y := (x3 + 1)) (l' := [(0, .ref 0), (1, iV x1), (2, iV x2), (3, iV (x3 + 1)), (4, iV x4)]) dX11_layMatrix_84 rfl (by decide) rfl (by omega) rfl ?_
          refine g_iinc (npc := 90) (y := (x4 + 1)) (l' := [(0, .ref 0), (1, iV x1), (2, iV x2), (3, iV (x3 + 1)), (4, iV (x4 + 1))]) dX11_layMatrix_87 rfl (by decide) rfl (by omega) rfl ?_
          refine g_goto (npc := 17) dX11_layMatrix_90 (by decide) ?_
          exact hT
set_option maxRecDepth 20000 in
theorem e_Mo_layMatrix {s : Sto} {Q : Sto → Prop} (hT : H_Mo_layMatrix_4 Q 0 0 s) : K_Mo_layMatrix s Q := by
  refine Sp.body (by decide) (Nat.le_of_ble_eq_true rfl) ?_
  show Go SM M_Mo_layMatrix (fV0 Q) 0 [(0, .ref 0)] [] s
  refine g_iconst (npc := 1) dX11_layMatrix_0 rfl ?_
  refine g_istore_n (npc := 2) (l' := [(0, .ref 0), (1, iV 0)]) dX11_layMatrix_1 rfl rfl (by decide) rfl ?_
  refine g_iconst (npc := 3) dX11_layMatrix_2 rfl ?_
  refine g_istore_n (npc := 4) (l' := [(0, .ref 0), (1, iV 0), (2, iV 0)]) dX11_layMatrix_3 rfl rfl (by decide) rfl ?_
  exact hT
set_option maxRecDepth 20000 in
theorem e_Mo_size {x0 : Int} {s : Sto} {Q : Int → Sto → Prop} (hT : (-9223372036854775808 ≤ x0 ∧ x0 < 9223372036854775808) ∧ ((0 ≤ x0) → Q x0 s) ∧ ((x0 < 0) → Q (-x0) s)) : K_Mo_size x0 s Q := by
  refine Sp.body (by decide) (Nat.le_of_ble_eq_true rfl) ?_
  show Go SM M_Mo_size (fJ Q) 0 [(0, jV x0)] [] s
  refine g_lload_n (npc := 1) dX11_size_0 rfl rfl rfl ?_
  refine g_lconst (npc := 2) (x := 0) dX11_size_1 rfl (by decide) ?_
  obtain ⟨h1, hTt, hTf⟩ := hT
  refine g_lge (pc2 := 3) (npc := 6) (tgt := 11) dX11_size_2 rfl dX11_size_3 rfl (by decide) ⟨h1, by decide, by decide⟩ (fun c2 => ?_) (fun c2 => ?_)
  · replace hT := hTt c2
    refine g_lload_n (npc := 12) dX11_size_11 rfl rfl rfl ?_
    exact g_lret dX11_size_12 rfl ⟨_, rfl, hT⟩
  · replace hT := hTf (Int.not_le.mp c2)
    refine g_lload_n (npc := 7) dX11_size_6 rfl rfl rfl ?_
    refine g_lneg (npc := 8) dX11_size_7 rfl ?_
    refine g_goto (npc := 12) dX11_size_8 (by decide) ?_
    exact g_lret dX11_size_12 rfl ⟨_, rfl, hT⟩
abbrev H_Mo_swap_3 (Q : Sto → Prop) (x1 : Int) (x2 : Int) (x3 : Int) (x4 : Int) (s : Sto) : Prop := Go SM M_Mo_swap (fV0 Q) 3 [(0, .ref 0), (1, iV x1), (2, iV x2), (3, iV x3), (4, iV x4)] [] s
set_option maxRecDepth 20000 in
theorem b_Mo_swap_3 {Q : Sto → Prop} {x1 : Int} {x2 : Int} {x3 : Int} {x4 : Int} {s : Sto} (hT : (-2147483648 ≤ x4 ∧ x4 < 2147483648) ∧ ((7 ≤ x4) → Q s) ∧ ((x4 < 7) → ∃ J8 : Int → Prop, (∀ v7, J8 v7 → ∃ J16 : Int → Prop, (∀ v15, J16 v15 → (0 ≤ v7 ∧ v7 < 49) ∧ (0 ≤ v15 ∧ v15 < 49) ∧ (0 ≤ v7 ∧ v7 < 49) ∧ ∀ s22, s22 = up s 16 (Int.toNat v7) (s 16 (Int.toNat v15)) → (0 ≤ v15 ∧ v15 < 49) ∧ ∀ s24, s24 = up s22 16 (Int.toNat v15) (s 16 (Int.toNat v7)) → H_Mo_swap_3 Q x1 x2 x3 (x4 + 1) s24) ∧ (-2147483648 ≤ x3 ∧ x3 < 2147483648) ∧ ((x3 = 0) → J16 ((7 * x2) + x4)) ∧ ((¬ x3 = 0) → J16 ((7 * x4) + x2))) ∧ (-2147483648 ≤ x3 ∧ x3 < 2147483648) ∧ ((x3 = 0) → J8 ((7 * x1) + x4)) ∧ ((¬ x3 = 0) → J8 ((7 * x4) + x1)))) : H_Mo_swap_3 Q x1 x2 x3 x4 s := by
  refine g_iload (npc := 5) dX11_swap_3 rfl rfl ?_
  refine g_bipush (npc := 7) (x := 7) dX11_swap_5 rfl (by decide) ?_
  obtain ⟨h1, hTt, hTf⟩ := hT
  refine g_icmp_ge (npc := 10) (tgt := 94) dX11_swap_7 rfl (by decide) ⟨h1, by decide, by decide⟩ (fun c2 => ?_) (fun c2 => ?_)
  · replace hT := hTt c2
    exact g_ret dX11_swap_94 rfl ⟨rfl, hT⟩
  · replace hT := hTf (Int.not_le.mp c2)
    refine g_iload_n (npc := 11) dX11_swap_10 rfl rfl rfl ?_
    obtain ⟨J8, hT⟩ := hT
    obtain ⟨hj28, hT⟩ := hT
    have K29 : ∀ (v7 : Int), J8 v7 → Go SM M_Mo_swap (fV0 Q) 31 [(0, .ref 0), (1, iV x1), (2, iV x2), (3, iV x3), (4, iV x4)] [iV v7] s := by
      intro v7 q30
      replace hT := hj28 v7 q30
      refine g_istore (npc := 33) (l' := [(0, .ref 0), (1, iV x1), (2, iV x2), (3, iV x3), (4, iV x4), (5, iV v7)]) dX11_swap_31 rfl (by decide) rfl ?_
      refine g_iload_n (npc := 34) dX11_swap_33 rfl rfl rfl ?_
      obtain ⟨J16, hT⟩ := hT
      obtain ⟨hj25, hT⟩ := hT
      have K26 : ∀ (v15 : Int), J16 v15 → Go SM M_Mo_swap (fV0 Q) 54 [(0, .ref 0), (1, iV x1), (2, iV x2), (3, iV x3), (4, iV x4), (5, iV v7)] [iV v15] s := by
        intro v15 q27
        replace hT := hj25 v15 q27
        refine g_istore (npc := 56) (l' := [(0, .ref 0), (1, iV x1), (2, iV x2), (3, iV x3), (4, iV x4), (5, iV v7), (6, iV v15)]) dX11_swap_54 rfl (by decide) rfl ?_
        refine g_aload_n (npc := 57) dX11_swap_56 rfl rfl rfl ?_
        refine gf_Mo_57 (npc := 60) dX11_swap_57 rfl rfl ?_
        refine g_iload (npc := 62) dX11_swap_60 rfl rfl ?_
        obtain ⟨h19, hT⟩ := hT
        refine g_lald (npc := 63) dX11_swap_62 rfl arSM_16 h19 ?_
        refine g_lstore (npc := 65) (l' := [(0, .ref 0), (1, iV x1), (2, iV x2), (3, iV x3), (4, iV x4), (5, iV v7), (6, iV v15), (7, jV (s 16 (Int.toNat v7)))]) dX11_swap_63 rfl (by decide) rfl ?_
        refine g_aload_n (npc := 66) dX11_swap_65 rfl rfl rfl ?_
        refine gf_Mo_57 (npc := 69) dX11_swap_66 rfl rfl ?_
        refine g_iload (npc := 71) dX11_swap_69 rfl rfl ?_
        refine g_aload_n (npc := 72) dX11_swap_71 rfl rfl rfl ?_
        refine gf_Mo_57 (npc := 75) dX11_swap_72 rfl rfl ?_
        refine g_iload (npc := 77) dX11_swap_75 rfl rfl ?_
        obtain ⟨h20, hT⟩ := hT
        refine g_lald (npc := 78) dX11_swap_77 rfl arSM_16 h20 ?_
        obtain ⟨h21, hT⟩ := hT
        replace hT := hT _ rfl
        refine g_last (npc := 79) dX11_swap_78 rfl arSM_16 h21  ?_
        refine g_aload_n (npc := 80) dX11_swap_79 rfl rfl rfl ?_
        refine gf_Mo_57 (npc := 83) dX11_swap_80 rfl rfl ?_
        refine g_iload (npc := 85) dX11_swap_83 rfl rfl ?_
        refine g_lload (npc := 87) dX11_swap_85 rfl rfl ?_
        obtain ⟨h23, hT⟩ := hT
        replace hT := hT _ rfl
        refine g_last (npc := 88) dX11_swap_87 rfl arSM_16 h23  ?_
        refine g_iinc (npc := 91) (y := (x4 + 1)) (l' := [(0, .ref 0), (1, iV x1), (2, iV x2), (3, iV x3), (4, iV (x4 + 1)), (5, iV v7), (6, iV v15), (7, jV (s 16 (Int.toNat v7)))]) dX11_swap_88 rfl (by decide) rfl (by omega) rfl ?_
        refine g_goto (npc := 3) dX11_swap_91 (by decide) ?_
        refine Go.lsub [0, 1, 2, 3, 4] rfl ?_
        exact hT
      obtain ⟨h17, hTt, hTf⟩ := hT
      refine g_if_eq (npc := 37) (tgt := 47) dX11_swap_34 rfl (by decide) h17 (fun c18 => ?_) (fun c18 => ?_)
      · replace hT := hTt c18
        refine g_bipush (npc := 49) (x := 7) dX11_swap_47 rfl (by decide) ?_
        refine g_iload_n (npc := 50) dX11_swap_49 rfl rfl rfl ?_
        refine g_imul (npc := 51) dX11_swap_50 rfl ?_
        refine g_iload (npc := 53) dX11_swap_51 rfl rfl ?_
        refine g_iadd (npc := 54) dX11_swap_53 rfl ?_
        exact K26 _ hT
      · replace hT := hTf c18
        refine g_bipush (npc := 39) (x := 7) dX11_swap_37 rfl (by decide) ?_
        refine g_iload (npc := 41) dX11_swap_39 rfl rfl ?_
        refine g_imul (npc := 42) dX11_swap_41 rfl ?_
        refine g_iload_n (npc := 43) dX11_swap_42 rfl rfl rfl ?_
        refine g_iadd (npc := 44) dX11_swap_43 rfl ?_
        refine g_goto (npc := 54) dX11_swap_44 (by decide) ?_
        exact K26 _ hT
    obtain ⟨h9, hTt, hTf⟩ := hT
    refine g_if_eq (npc := 14) (tgt := 24) dX11_swap_11 rfl (by decide) h9 (fun c10 => ?_) (fun c10 => ?_)
    · replace hT := hTt c10
      refine g_bipush (npc := 26) (x := 7) dX11_swap_24 rfl (by decide) ?_
      refine g_iload_n (npc := 27) dX11_swap_26 rfl rfl rfl ?_
      refine g_imul (npc := 28) dX11_swap_27 rfl ?_
      refine g_iload (npc := 30) dX11_swap_28 rfl rfl ?_
      refine g_iadd (npc := 31) dX11_swap_30 rfl ?_
      exact K29 _ hT
    · replace hT := hTf c10
      refine g_bipush (npc := 16) (x := 7) dX11_swap_14 rfl (by decide) ?_
      refine g_iload (npc := 18) dX11_swap_16 rfl rfl ?_
      refine g_imul (npc := 19) dX11_swap_18 rfl ?_
      refine g_iload_n (npc := 20) dX11_swap_19 rfl rfl rfl ?_
      refine g_iadd (npc := 21) dX11_swap_20 rfl ?_
      refine g_goto (npc := 31) dX11_swap_21 (by decide) ?_
      exact K29 _ hT
set_option maxRecDepth 20000 in
theorem e_Mo_swap {x1 : Int} {x2 : Int} {x3 : Int} {s : Sto} {Q : Sto → Prop} (hT : H_Mo_swap_3 Q x1 x2 x3 0 s) : K_Mo_swap x1 x2 x3 s Q := by
  refine Sp.body (by decide) (Nat.le_of_ble_eq_true rfl) ?_
  show Go SM M_Mo_swap (fV0 Q) 0 [(0, .ref 0), (1, iV x1), (2, iV x2), (3, iV x3)] [] s
  refine g_iconst (npc := 1) dX11_swap_0 rfl ?_
  refine g_istore (npc := 3) (l' := [(0, .ref 0), (1, iV x1), (2, iV x2), (3, iV x3), (4, iV 0)]) dX11_swap_1 rfl (by decide) rfl ?_
  exact hT
abbrev H_Mo_bringLeast_8 (Q : Int → Sto → Prop) (x1 : Int) (x2 : Int) (x3 : Int) (x4 : Int) (s : Sto) : Prop := Go SM M_Mo_bringLeast (fI Q) 8 [(0, .ref 0), (1, iV x1), (2, iV x2), (3, iV x3), (4, iV x4)] [] s
set_option maxRecDepth 20000 in
theorem b_Mo_bringLeast_8 {Q : Int → Sto → Prop} {x1 : Int} {x2 : Int} {x3 : Int} {x4 : Int} {s : Sto} (hT : ((-2147483648 ≤ x4 ∧ x4 < 2147483648) ∧ -2147483648 ≤ (7 * x2) ∧ (7 * x2) < 2147483648) ∧ (((7 * x2) ≤ x4) → (-2147483648 ≤ x3 ∧ x3 < 2147483648) ∧ ((0 ≤ x3) → (-2147483648 ≤ x3 ∧ x3 < 2147483648) ∧ ∃ Q6 : Sto → Prop, K_Mo_swap x1 (Int.tdiv x3 7) 0 s Q6 ∧ ∀ s8, Q6 s8 → (-2147483648 ≤ x3 ∧ x3 < 2147483648) ∧ ∃ Q12 : Sto → Prop, K_Mo_swap x1 (Int.tmod x3 7) 1 s8 Q12 ∧ ∀ s14, Q12 s14 → Q 1 s14) ∧ ((x3 < 0) → Q 0 s)) ∧ ((x4 < (7 * x2)) → (-2147483648 ≤ x4 ∧ x4 < 2147483648) ∧ ∃ J21 : Prop, ∃ J26 : Int → Prop, (J21 → J26 0) ∧ (∀ v25, J26 v25 → (-2147483648 ≤ v25 ∧ v25 < 2147483648) ∧ ((v25 = 0) → H_Mo_bringLeast_8 Q x1 x2 x3 (x4 + 1) s) ∧ ((¬ v25 = 0) → (-2147483648 ≤ x3 ∧ x3 < 2147483648) ∧ ((x3 < 0) → H_Mo_bringLeast_8 Q x1 x2 x4 (x4 + 1) s) ∧ ((0 ≤ x3) → (0 ≤ x4 ∧ x4 < 49) ∧ ∃ Q36 : Int → Sto → Prop, K_Mo_size (s 16 (Int.toNat x4)) s Q36 ∧ ∀ r39 s38, Q36 r39 s38 → (0 ≤ x3 ∧ x3 < 49) ∧ ∃ Q42 : Int → Sto → Prop, K_Mo_size (s38 16 (Int.toNat x3)) s38 Q42 ∧ ∀ r45 s44, Q42 r45 s44 → ((-9223372036854775808 ≤ r39 ∧ r39 < 9223372036854775808) ∧ -9223372036854775808 ≤ r45 ∧ r45 < 9223372036854775808) ∧ ((r45 ≤ r39) → H_Mo_bringLeast_8 Q x1 x2 x3 (x4 + 1) s44) ∧ ((r39 < r45) → H_Mo_bringLeast_8 Q x1 x2 x4 (x4 + 1) s44)))) ∧ ((-2147483648 ≤ (Int.tmod x4 7) ∧ (Int.tmod x4 7) < 2147483648) ∧ -2147483648 ≤ x1 ∧ x1 < 2147483648) ∧ (((Int.tmod x4 7) < x1) → J21) ∧ ((x1 ≤ (Int.tmod x4 7)) → (-2147483648 ≤ x4 ∧ x4 < 2147483648) ∧ ((-2147483648 ≤ (Int.tmod x4 7) ∧ (Int.tmod x4 7) < 2147483648) ∧ -2147483648 ≤ x2 ∧ x2 < 2147483648) ∧ ((x2 ≤ (Int.tmod x4 7)) → J21) ∧ (((Int.tmod x4 7) < x2) → (0 ≤ x4 ∧ x4 < 49) ∧ (-9223372036854775808 ≤ (s 16 (Int.toNat x4)) ∧ (s 16 (Int.toNat x4)) < 9223372036854775808) ∧ (((s 16 (Int.toNat x4)) = 0) → J21) ∧ ((¬ (s 16 (Int.toNat x4)) = 0) → J26 1))))) : H_Mo_bringLeast_8 Q x1 x2 x3 x4 s := by
  refine g_iload (npc := 10) dX11_bringLeast_8 rfl rfl ?_
  refine g_bipush (npc := 12) (x := 7) dX11_bringLeast_10 rfl (by decide) ?_
  refine g_iload_n (npc := 13) dX11_bringLeast_12 rfl rfl rfl ?_
  refine g_imul (npc := 14) dX11_bringLeast_13 rfl ?_
  obtain ⟨h1, hTt, hTf⟩ := hT
  refine g_icmp_ge (npc := 17) (tgt := 99) dX11_bringLeast_14 rfl (by decide) h1 (fun c2 => ?_) (fun c2 => ?_)
  · replace hT := hTt c2
    refine g_iload_n (npc := 100) dX11_bringLeast_99 rfl rfl rfl ?_
    obtain ⟨h3, hTt, hTf⟩ := hT
    refine g_if_ge (npc := 103) (tgt := 105) dX11_bringLeast_100 rfl (by decide) h3 (fun c4 => ?_) (fun c4 => ?_)
    · replace hT := hTt c4
      refine g_aload_n (npc := 106) dX11_bringLeast_105 rfl rfl rfl ?_
      refine g_iload_n (npc := 107) dX11_bringLeast_106 rfl rfl rfl ?_
      refine g_iload_n (npc := 108) dX11_bringLeast_107 rfl rfl rfl ?_
      refine g_bipush (npc := 110) (x := 7) dX11_bringLeast_108 rfl (by decide) ?_
      obtain ⟨h5, hT⟩ := hT
      refine g_idiv (npc := 111) dX11_bringLeast_110 rfl ⟨h5, by decide, by decide⟩ (by decide) ?_
      refine g_iconst (npc := 112) dX11_bringLeast_111 rfl ?_
      obtain ⟨Q6, h7, hT⟩ := hT
      refine iv_Mo_190 (npc := 115) dX11_bringLeast_112 rfl rfl (Nat.le_of_ble_eq_true rfl) (by decide) h7 (fun s8 e10 => ?_)
      replace hT := hT s8 e10
      refine g_aload_n (npc := 116) dX11_bringLeast_115 rfl rfl rfl ?_
      refine g_iload_n (npc := 117) dX11_bringLeast_116 rfl rfl rfl ?_
      refine g_iload_n (npc := 118) dX11_bringLeast_117 rfl rfl rfl ?_
      refine g_bipush (npc := 120) (x := 7) dX11_bringLeast_118 rfl (by decide) ?_
      obtain ⟨h11, hT⟩ := hT
      refine g_irem (npc := 121) dX11_bringLeast_120 rfl ⟨h11, by decide, by decide⟩ (by decide) ?_
      refine g_iconst (npc := 122) dX11_bringLeast_121 rfl ?_
      obtain ⟨Q12, h13, hT⟩ := hT
      refine iv_Mo_190 (npc := 125) dX11_bringLeast_122 rfl rfl (Nat.le_of_ble_eq_true rfl) (by decide) h13 (fun s14 e16 => ?_)
      replace hT := hT s14 e16
      refine g_iconst (npc := 126) dX11_bringLeast_125 rfl ?_
      exact g_iret dX11_bringLeast_126 rfl (by decide) ⟨_, rfl, hT⟩
    · replace hT := hTf (Int.not_le.mp c4)
      refine g_iconst (npc := 104) dX11_bringLeast_103 rfl ?_
      exact g_iret dX11_bringLeast_104 rfl (by decide) ⟨_, rfl, hT⟩
  · replace hT := hTf (Int.not_le.mp c2)
    refine g_iload (npc := 19) dX11_bringLeast_17 rfl rfl ?_
    refine g_bipush (npc := 21) (x := 7) dX11_bringLeast_19 rfl (by decide) ?_
    obtain ⟨h17, hT⟩ := hT
    refine g_irem (npc := 22) dX11_bringLeast_21 rfl ⟨h17, by decide, by decide⟩ (by decide) ?_
    refine g_iload_n (npc := 23) dX11_bringLeast_22 rfl rfl rfl ?_
    obtain ⟨J21, hT⟩ := hT
    obtain ⟨J26, hT⟩ := hT
    obtain ⟨hj29, hT⟩ := hT
    obtain ⟨hj49, hT⟩ := hT
    have K50 : ∀ (v25 : Int), J26 v25 → Go SM M_Mo_bringLeast (fI Q) 52 [(0, .ref 0), (1, iV x1), (2, iV x2), (3, iV x3), (4, iV x4)] [iV v25] s := by
      intro v25 q57
      replace hT := hj49 v25 q57
      refine g_istore (npc := 54) (l' := [(0, .ref 0), (1, iV x1), (2, iV x2), (3, iV x3), (4, iV x4), (5, iV v25)]) dX11_bringLeast_52 rfl (by decide) rfl ?_
      refine g_iload (npc := 56) dX11_bringLeast_54 rfl rfl ?_
      obtain ⟨h31, hTt, hTf⟩ := hT
      refine g_if_eq (npc := 59) (tgt := 91) dX11_bringLeast_56 rfl (by decide) h31 (fun c32 => ?_) (fun c32 => ?_)
      · replace hT := hTt c32
        refine g_iload_n (npc := 92) dX11_bringLeast_91 rfl rfl rfl ?_
        refine g_istore_n (npc := 93) (l' := [(0, .ref 0), (1, iV x1), (2, iV x2), (3, iV x3), (4, iV x4), (5, iV v25)]) dX11_bringLeast_92 rfl rfl (by decide) rfl ?_
        refine g_iinc (npc := 96) (y := (x4 + 1)) (l' := [(0, .ref 0), (1, iV x1), (2, iV x2), (3, iV x3), (4, iV (x4 + 1)), (5, iV v25)]) dX11_bringLeast_93 rfl (by decide) rfl (by omega) rfl ?_
        refine g_goto (npc := 8) dX11_bringLeast_96 (by decide) ?_
        refine Go.lsub [0, 1, 2, 3, 4] rfl ?_
        exact hT
      · replace hT := hTf c32
        refine g_iload_n (npc := 60) dX11_bringLeast_59 rfl rfl rfl ?_
        obtain ⟨h33, hTt, hTf⟩ := hT
        refine g_if_lt (npc := 63) (tgt := 86) dX11_bringLeast_60 rfl (by decide) h33 (fun c34 => ?_) (fun c34 => ?_)
        · replace hT := hTt c34
          refine g_iload (npc := 88) dX11_bringLeast_86 rfl rfl ?_
          refine g_goto (npc := 92) dX11_bringLeast_88 (by decide) ?_
          refine g_istore_n (npc := 93) (l' := [(0, .ref 0), (1, iV x1), (2, iV x2), (3, iV x4), (4, iV x4), (5, iV v25)]) dX11_bringLeast_92 rfl rfl (by decide) rfl ?_
          refine g_iinc (npc := 96) (y := (x4 + 1)) (l' := [(0, .ref 0), (1, iV x1), (2, iV x2), (3, iV x4), (4, iV (x4 + 1)), (5, iV v25)]) dX11_bringLeast_93 rfl (by decide) rfl (by omega) rfl ?_
          refine g_goto (npc := 8) dX11_bringLeast_96 (by decide) ?_
          refine Go.lsub [0, 1, 2, 3, 4] rfl ?_
          exact hT
        · replace hT := hTf (Int.not_lt.mp c34)
          refine g_aload_n (npc := 64) dX11_bringLeast_63 rfl rfl rfl ?_
          refine gf_Mo_57 (npc := 67) dX11_bringLeast_64 rfl rfl ?_
          refine g_iload (npc := 69) dX11_bringLeast_67 rfl rfl ?_
          obtain ⟨h35, hT⟩ := hT
          refine g_lald (npc := 70) dX11_bringLeast_69 rfl arSM_16 h35 ?_
          obtain ⟨Q36, h37, hT⟩ := hT
          refine iv_Mo_186 (npc := 73) dX11_bringLeast_70 rfl rfl (Nat.le_of_ble_eq_true rfl) (by decide) h37 (fun r39 s38 e40 => ?_)
          replace hT := hT r39 s38 e40
          refine g_aload_n (npc := 74) dX11_bringLeast_73 rfl rfl rfl ?_
          refine gf_Mo_57 (npc := 77) dX11_bringLeast_74 rfl rfl ?_
          refine g_iload_n (npc := 78) dX11_bringLeast_77 rfl rfl rfl ?_
          obtain ⟨h41, hT⟩ := hT
          refine g_lald (npc := 79) dX11_bringLeast_78 rfl arSM_16 h41 ?_
          obtain ⟨Q42, h43, hT⟩ := hT
          refine iv_Mo_186 (npc := 82) dX11_bringLeast_79 rfl rfl (Nat.le_of_ble_eq_true rfl) (by decide) h43 (fun r45 s44 e46 => ?_)
          replace hT := hT r45 s44 e46
          obtain ⟨h47, hTt, hTf⟩ := hT
          refine g_lge (pc2 := 83) (npc := 86) (tgt := 91) dX11_bringLeast_82 rfl dX11_bringLeast_83 rfl (by decide) h47 (fun c48 => ?_) (fun c48 => ?_)
          · replace hT := hTt c48
            refine g_iload_n (npc := 92) dX11_bringLeast_91 rfl rfl rfl ?_
            refine g_istore_n (npc := 93) (l' := [(0, .ref 0), (1, iV x1), (2, iV x2), (3, iV x3), (4, iV x4), (5, iV v25)]) dX11_bringLeast_92 rfl rfl (by decide) rfl ?_
            refine g_iinc (npc := 96) (y := (x4 + 1)) (l' := [(0, .ref 0), (1, iV x1), (2, iV x2), (3, iV x3), (4, iV (x4 + 1)), (5, iV v25)]) dX11_bringLeast_93 rfl (by decide) rfl (by omega) rfl ?_
            refine g_goto (npc := 8) dX11_bringLeast_96 (by decide) ?_
            refine Go.lsub [0, 1, 2, 3, 4] rfl ?_
            exact hT
          · replace hT := hTf (Int.not_le.mp c48)
            refine g_iload (npc := 88) dX11_bringLeast_86 rfl rfl ?_
            refine g_goto (npc := 92) dX11_bringLeast_88 (by decide) ?_
            refine g_istore_n (npc := 93) (l' := [(0, .ref 0), (1, iV x1), (2, iV x2), (3, iV x4), (4, iV x4), (5, iV v25)]) dX11_bringLeast_92 rfl rfl (by decide) rfl ?_
            refine g_iinc (npc := 96) (y := (x4 + 1)) (l' := [(0, .ref 0), (1, iV x1), (2, iV x2), (3, iV x4), (4, iV (x4 + 1)), (5, iV v25)]) dX11_bringLeast_93 rfl (by decide) rfl (by omega) rfl ?_
            refine g_goto (npc := 8) dX11_bringLeast_96 (by decide) ?_
            refine Go.lsub [0, 1, 2, 3, 4] rfl ?_
            exact hT
    have K30 : J21 → Go SM M_Mo_bringLeast (fI Q) 51 [(0, .ref 0), (1, iV x1), (2, iV x2), (3, iV x3), (4, iV x4)] [] s := by
      intro  q58
      replace hT := hj29  q58
      refine g_iconst (npc := 52) dX11_bringLeast_51 rfl ?_
      exact K50 _ hT
    obtain ⟨h27, hTt, hTf⟩ := hT
    refine g_icmp_lt (npc := 26) (tgt := 51) dX11_bringLeast_23 rfl (by decide) h27 (fun c28 => ?_) (fun c28 => ?_)
    · replace hT := hTt c28
      exact K30  hT
    · replace hT := hTf (Int.not_lt.mp c28)
      refine g_iload (npc := 28) dX11_bringLeast_26 rfl rfl ?_
      refine g_bipush (npc := 30) (x := 7) dX11_bringLeast_28 rfl (by decide) ?_
      obtain ⟨h51, hT⟩ := hT
      refine g_irem (npc := 31) dX11_bringLeast_30 rfl ⟨h51, by decide, by decide⟩ (by decide) ?_
      refine g_iload_n (npc := 32) dX11_bringLeast_31 rfl rfl rfl ?_
      obtain ⟨h52, hTt, hTf⟩ := hT
      refine g_icmp_ge (npc := 35) (tgt := 51) dX11_bringLeast_32 rfl (by decide) h52 (fun c53 => ?_) (fun c53 => ?_)
      · replace hT := hTt c53
        exact K30  hT
      · replace hT := hTf (Int.not_le.mp c53)
        refine g_aload_n (npc := 36) dX11_bringLeast_35 rfl rfl rfl ?_
        refine gf_Mo_57 (npc := 39) dX11_bringLeast_36 rfl rfl ?_
        refine g_iload (npc := 41) dX11_bringLeast_39 rfl rfl ?_
        obtain ⟨h54, hT⟩ := hT
        refine g_lald (npc := 42) dX11_bringLeast_41 rfl arSM_16 h54 ?_
        refine g_lconst (npc := 43) (x := 0) dX11_bringLeast_42 rfl (by decide) ?_
        obtain ⟨h55, hTt, hTf⟩ := hT
        refine g_leq (pc2 := 44) (npc := 47) (tgt := 51) dX11_bringLeast_43 rfl dX11_bringLeast_44 rfl (by decide) ⟨h55, by decide, by decide⟩ (fun c56 => ?_) (fun c56 => ?_)
        · replace hT := hTt c56
          exact K30  hT
        · replace hT := hTf c56
          refine g_iconst (npc := 48) dX11_bringLeast_47 rfl ?_
          refine g_goto (npc := 52) dX11_bringLeast_48 (by decide) ?_
          exact K50 _ hT
set_option maxRecDepth 20000 in
theorem e_Mo_bringLeast {x1 : Int} {x2 : Int} {s : Sto} {Q : Int → Sto → Prop} (hT : H_Mo_bringLeast_8 Q x1 x2 (-1) (7 * x1) s) : K_Mo_bringLeast x1 x2 s Q := by
  refine Sp.body (by decide) (Nat.le_of_ble_eq_true rfl) ?_
  show Go SM M_Mo_bringLeast (fI Q) 0 [(0, .ref 0), (1, iV x1), (2, iV x2)] [] s
  refine g_iconst (npc := 1) dX11_bringLeast_0 rfl ?_
  refine g_istore_n (npc := 2) (l' := [(0, .ref 0), (1, iV x1), (2, iV x2), (3, iV (-1))]) dX11_bringLeast_1 rfl rfl (by decide) rfl ?_
  refine g_bipush (npc := 4) (x := 7) dX11_bringLeast_2 rfl (by decide) ?_
  refine g_iload_n (npc := 5) dX11_bringLeast_4 rfl rfl rfl ?_
  refine g_imul (npc := 6) dX11_bringLeast_5 rfl ?_
  refine g_istore (npc := 8) (l' := [(0, .ref 0), (1, iV x1), (2, iV x2), (3, iV (-1)), (4, iV (7 * x1))]) dX11_bringLeast_6 rfl (by decide) rfl ?_
  exact hT
abbrev H_Mo_lessen_3 (Q : Sto → Prop) (x1 : Int) (x2 : Int) (x3 : Int) (x5 : Int) (x6 : Int) (s : Sto) : Prop := Go SM M_Mo_lessen (fV0 Q) 3 [(0, .ref 0), (1, iV x1), (2, iV x2), (3, jV x3), (5, iV x5), (6, iV x6)] [] s
set_option maxRecDepth 20000 in
theorem b_Mo_lessen_3 {Q : Sto → Prop} {x1 : Int} {x2 : Int} {x3 : Int} {x5 : Int} {x6 : Int} {s : Sto} (hT : (-2147483648 ≤ x6 ∧ x6 < 2147483648) ∧ ((7 ≤ x6) → Q s) ∧ ((x6 < 7) → ∃ J8 : Int → Prop, (∀ v7, J8 v7 → ∃ J16 : Int → Prop, (∀ v15, J16 v15 → (0 ≤ v7 ∧ v7 < 49) ∧ (0 ≤ v15 ∧ v15 < 49) ∧ (0 ≤ v7 ∧ v7 < 49) ∧ ∀ s22, s22 = up s 16 (Int.toNat v7) ((s 16 (Int.toNat v7)) - (x3 * (s 16 (Int.toNat v15)))) → H_Mo_lessen_3 Q x1 x2 x3 x5 (x6 + 1) s22) ∧ (-2147483648 ≤ x5 ∧ x5 < 2147483648) ∧ ((x5 = 0) → J16 ((7 * x2) + x6)) ∧ ((¬ x5 = 0) → J16 ((7 * x6) + x2))) ∧ (-2147483648 ≤ x5 ∧ x5 < 2147483648) ∧ ((x5 = 0) → J8 ((7 * x1) + x6)) ∧ ((¬ x5 = 0) → J8 ((7 * x6) + x1)))) : H_Mo_lessen_3 Q x1 x2 x3 x5 x6 s := by
  refine g_iload (npc := 5) dX11_lessen_3 rfl rfl ?_
  refine g_bipush (npc := 7) (x := 7) dX11_lessen_5 rfl (by decide) ?_
  obtain ⟨h1, hTt, hTf⟩ := hT
  refine g_icmp_ge (npc := 10) (tgt := 83) dX11_lessen_7 rfl (by decide) ⟨h1, by decide, by decide⟩ (fun c2 => ?_) (fun c2 => ?_)
  · replace hT := hTt c2
    exact g_ret dX11_lessen_83 rfl ⟨rfl, hT⟩
  · replace hT := hTf (Int.not_le.mp c2)
    refine g_iload (npc := 12) dX11_lessen_10 rfl rfl ?_
    obtain ⟨J8, hT⟩ := hT
    obtain ⟨hj26, hT⟩ := hT
    have K27 : ∀ (v7 : Int), J8 v7 → Go SM M_Mo_lessen (fV0 Q) 32 [(0, .ref 0), (1, iV x1), (2, iV x2), (3, jV x3), (5, iV x5), (6, iV x6)] [iV v7] s := by
      intro v7 q28
      replace hT := hj26 v7 q28
      refine g_istore (npc := 34) (l' := [(0, .ref 0), (1, iV x1), (2, iV x2), (3, jV x3), (5, iV x5), (6, iV x6), (7, iV v7)]) dX11_lessen_32 rfl (by decide) rfl ?_
      refine g_iload (npc := 36) dX11_lessen_34 rfl rfl ?_
      obtain ⟨J16, hT⟩ := hT
      obtain ⟨hj23, hT⟩ := hT
      have K24 : ∀ (v15 : Int), J16 v15 → Go SM M_Mo_lessen (fV0 Q) 56 [(0, .ref 0), (1, iV x1), (2, iV x2), (3, jV x3), (5, iV x5), (6, iV x6), (7, iV v7)] [iV v15] s := by
        intro v15 q25
        replace hT := hj23 v15 q25
        refine g_istore (npc := 58) (l' := [(0, .ref 0), (1, iV x1), (2, iV x2), (3, jV x3), (5, iV x5), (6, iV x6), (7, iV v7), (8, iV v15)]) dX11_lessen_56 rfl (by decide) rfl ?_
        refine g_aload_n (npc := 59) dX11_lessen_58 rfl rfl rfl ?_
        refine gf_Mo_57 (npc := 62) dX11_lessen_59 rfl rfl ?_
        refine g_iload (npc := 64) dX11_lessen_62 rfl rfl ?_
        refine g_dup2 (npc := 65) dX11_lessen_64 rfl rfl rfl ?_
        obtain ⟨h19, hT⟩ := hT
        refine g_lald (npc := 66) dX11_lessen_65 rfl arSM_16 h19 ?_
        refine g_lload_n (npc := 67) dX11_lessen_66 rfl rfl rfl ?_
        refine g_aload_n (npc := 68) dX11_lessen_67 rfl rfl rfl ?_
        refine gf_Mo_57 (npc := 71) dX11_lessen_68 rfl rfl ?_
        refine g_iload (npc := 73) dX11_lessen_71 rfl rfl ?_
        obtain ⟨h20, hT⟩ := hT
        refine g_lald (npc := 74) dX11_lessen_73 rfl arSM_16 h20 ?_
        refine g_lmul (npc := 75) dX11_lessen_74 rfl ?_
        refine g_lsub (npc := 76) dX11_lessen_75 rfl ?_
        obtain ⟨h21, hT⟩ := hT
        replace hT := hT _ rfl
        refine g_last (npc := 77) dX11_lessen_76 rfl arSM_16 h21  ?_
        refine g_iinc (npc := 80) (y := (x6 + 1)) (l' := [(0, .ref 0), (1, iV x1), (2, iV x2), (3, jV x3), (5, iV x5), (6, iV (x6 + 1)), (7, iV v7), (8, iV v15)]) dX11_lessen_77 rfl (by decide) rfl (by omega) rfl ?_
        refine g_goto (npc := 3) dX11_lessen_80 (by decide) ?_
        refine Go.lsub [0, 1, 2, 3, 4, 5] rfl ?_
        exact hT
      obtain ⟨h17, hTt, hTf⟩ := hT
      refine g_if_eq (npc := 39) (tgt := 49) dX11_lessen_36 rfl (by decide) h17 (fun c18 => ?_) (fun c18 => ?_)
      · replace hT := hTt c18
        refine g_bipush (npc := 51) (x := 7) dX11_lessen_49 rfl (by decide) ?_
        refine g_iload_n (npc := 52) dX11_lessen_51 rfl rfl rfl ?_
        refine g_imul (npc := 53) dX11_lessen_52 rfl ?_
        refine g_iload (npc := 55) dX11_lessen_53 rfl rfl ?_
        refine g_iadd (npc := 56) dX11_lessen_55 rfl ?_
        exact K24 _ hT
      · replace hT := hTf c18
        refine g_bipush (npc := 41) (x := 7) dX11_lessen_39 rfl (by decide) ?_
        refine g_iload (npc := 43) dX11_lessen_41 rfl rfl ?_
        refine g_imul (npc := 44) dX11_lessen_43 rfl ?_
        refine g_iload_n (npc := 45) dX11_lessen_44 rfl rfl rfl ?_
        refine g_iadd (npc := 46) dX11_lessen_45 rfl ?_
        refine g_goto (npc := 56) dX11_lessen_46 (by decide) ?_
        exact K24 _ hT
    obtain ⟨h9, hTt, hTf⟩ := hT
    refine g_if_eq (npc := 15) (tgt := 25) dX11_lessen_12 rfl (by decide) h9 (fun c10 => ?_) (fun c10 => ?_)
    · replace hT := hTt c10
      refine g_bipush (npc := 27) (x := 7) dX11_lessen_25 rfl (by decide) ?_
      refine g_iload_n (npc := 28) dX11_lessen_27 rfl rfl rfl ?_
      refine g_imul (npc := 29) dX11_lessen_28 rfl ?_
      refine g_iload (npc := 31) dX11_lessen_29 rfl rfl ?_
      refine g_iadd (npc := 32) dX11_lessen_31 rfl ?_
      exact K27 _ hT
    · replace hT := hTf c10
      refine g_bipush (npc := 17) (x := 7) dX11_lessen_15 rfl (by decide) ?_
      refine g_iload (npc := 19) dX11_lessen_17 rfl rfl ?_
      refine g_imul (npc := 20) dX11_lessen_19 rfl ?_
      refine g_iload_n (npc := 21) dX11_lessen_20 rfl rfl rfl ?_
      refine g_iadd (npc := 22) dX11_lessen_21 rfl ?_
      refine g_goto (npc := 32) dX11_lessen_22 (by decide) ?_
      exact K27 _ hT
set_option maxRecDepth 20000 in
theorem e_Mo_lessen {x1 : Int} {x2 : Int} {x3 : Int} {x5 : Int} {s : Sto} {Q : Sto → Prop} (hT : H_Mo_lessen_3 Q x1 x2 x3 x5 0 s) : K_Mo_lessen x1 x2 x3 x5 s Q := by
  refine Sp.body (by decide) (Nat.le_of_ble_eq_true rfl) ?_
  show Go SM M_Mo_lessen (fV0 Q) 0 [(0, .ref 0), (1, iV x1), (2, iV x2), (3, jV x3), (5, iV x5)] [] s
  refine g_iconst (npc := 1) dX11_lessen_0 rfl ?_
  refine g_istore (npc := 3) (l' := [(0, .ref 0), (1, iV x1), (2, iV x2), (3, jV x3), (5, iV x5), (6, iV 0)]) dX11_lessen_1 rfl (by decide) rfl ?_
  exact hT
abbrev H_Mo_isDone_7 (Q : Int → Sto → Prop) (x1 : Int) (x2 : Int) (x3 : Int) (x4 : Int) (s : Sto) : Prop := Go SM M_Mo_isDone (fI Q) 7 [(0, .ref 0), (1, iV x1), (2, iV x2), (3, iV x3), (4, iV x4)] [] s
abbrev H_Mo_isDone_81 (Q : Int → Sto → Prop) (x1 : Int) (x2 : Int) (x3 : Int) (x4 : Int) (s : Sto) : Prop := Go SM M_Mo_isDone (fI Q) 81 [(0, .ref 0), (1, iV x1), (2, iV x2), (3, iV x3), (4, iV x4)] [] s
abbrev H_Mo_isDone_155 (Q : Int → Sto → Prop) (x1 : Int) (x2 : Int) (x3 : Int) (x4 : Int) (s : Sto) : Prop := Go SM M_Mo_isDone (fI Q) 155 [(0, .ref 0), (1, iV x1), (2, iV x2), (3, iV x3), (4, iV x4)] [] s
abbrev H_Mo_isDone_170 (Q : Int → Sto → Prop) (x1 : Int) (x2 : Int) (x3 : Int) (x4 : Int) (x5 : Int) (s : Sto) : Prop := Go SM M_Mo_isDone (fI Q) 170 [(0, .ref 0), (1, iV x1), (2, iV x2), (3, iV x3), (4, iV x4), (5, iV x5)] [] s
set_option maxRecDepth 20000 in
theorem b_Mo_isDone_7 {Q : Int → Sto → Prop} {x1 : Int} {x2 : Int} {x3 : Int} {x4 : Int} {s : Sto} (hT : ((-2147483648 ≤ x4 ∧ x4 < 2147483648) ∧ -2147483648 ≤ x2 ∧ x2 < 2147483648) ∧ ((x2 ≤ x4) → H_Mo_isDone_81 Q x1 x2 x3 (x1 + 1) s) ∧ ((x4 < x2) → (0 ≤ ((7 * x4) + x1) ∧ ((7 * x4) + x1) < 49) ∧ (0 ≤ (8 * x1) ∧ (8 * x1) < 49) ∧ (((-9223372036854775808 ≤ (s 16 (Int.toNat ((7 * x4) + x1))) ∧ (s 16 (Int.toNat ((7 * x4) + x1))) < 9223372036854775808) ∧ -9223372036854775808 ≤ (s 16 (Int.toNat (8 * x1))) ∧ (s 16 (Int.toNat (8 * x1))) < 9223372036854775808) ∧ ¬ (s 16 (Int.toNat (8 * x1))) = 0) ∧ ∃ Q6 : Sto → Prop, K_Mo_lessen x4 x1 (Int.tdiv (s 16 (Int.toNat ((7 * x4) + x1))) (s 16 (Int.toNat (8 * x1)))) 0 s Q6 ∧ ∀ s8, Q6 s8 → (-2147483648 ≤ x3 ∧ x3 < 2147483648) ∧ ((x3 = 0) → H_Mo_isDone_7 Q x1 x2 0 (x4 + 1) s8) ∧ ((¬ x3 = 0) → (0 ≤ ((7 * x4) + x1) ∧ ((7 * x4) + x1) < 49) ∧ (-9223372036854775808 ≤ (s8 16 (Int.toNat ((7 * x4) + x1))) ∧ (s8 16 (Int.toNat ((7 * x4) + x1))) < 9223372036854775808) ∧ ((¬ (s8 16 (Int.toNat ((7 * x4) + x1))) = 0) → H_Mo_isDone_7 Q x1 x2 0 (x4 + 1) s8) ∧ (((s8 16 (Int.toNat ((7 * x4) + x1))) = 0) → H_Mo_isDone_7 Q x1 x2 1 (x4 + 1) s8)))) : H_Mo_isDone_7 Q x1 x2 x3 x4 s := by
  refine g_iload (npc := 9) dX11_isDone_7 rfl rfl ?_
  refine g_iload_n (npc := 10) dX11_isDone_9 rfl rfl rfl ?_
  obtain ⟨h1, hTt, hTf⟩ := hT
  refine g_icmp_ge (npc := 13) (tgt := 76) dX11_isDone_10 rfl (by decide) h1 (fun c2 => ?_) (fun c2 => ?_)
  · replace hT := hTt c2
    refine g_iload_n (npc := 77) dX11_isDone_76 rfl rfl rfl ?_
    refine g_iconst (npc := 78) dX11_isDone_77 rfl ?_
    refine g_iadd (npc := 79) dX11_isDone_78 rfl ?_
    refine g_istore (npc := 81) (l' := [(0, .ref 0), (1, iV x1), (2, iV x2), (3, iV x3), (4, iV (x1 + 1))]) dX11_isDone_79 rfl (by decide) rfl ?_
    exact hT
  · replace hT := hTf (Int.not_le.mp c2)
    refine g_aload_n (npc := 14) dX11_isDone_13 rfl rfl rfl ?_
    refine g_iload (npc := 16) dX11_isDone_14 rfl rfl ?_
    refine g_iload_n (npc := 17) dX11_isDone_16 rfl rfl rfl ?_
    refine g_aload_n (npc := 18) dX11_isDone_17 rfl rfl rfl ?_
    refine gf_Mo_57 (npc := 21) dX11_isDone_18 rfl rfl ?_
    refine g_bipush (npc := 23) (x := 7) dX11_isDone_21 rfl (by decide) ?_
    refine g_iload (npc := 25) dX11_isDone_23 rfl rfl ?_
    refine g_imul (npc := 26) dX11_isDone_25 rfl ?_
    refine g_iload_n (npc := 27) dX11_isDone_26 rfl rfl rfl ?_
    refine g_iadd (npc := 28) dX11_isDone_27 rfl ?_
    obtain ⟨h3, hT⟩ := hT
    refine g_lald (npc := 29) dX11_isDone_28 rfl arSM_16 h3 ?_
    refine g_aload_n (npc := 30) dX11_isDone_29 rfl rfl rfl ?_
    refine gf_Mo_57 (npc := 33) dX11_isDone_30 rfl rfl ?_
    refine g_bipush (npc := 35) (x := 8) dX11_isDone_33 rfl (by decide) ?_
    refine g_iload_n (npc := 36) dX11_isDone_35 rfl rfl rfl ?_
    refine g_imul (npc := 37) dX11_isDone_36 rfl ?_
    obtain ⟨h4, hT⟩ := hT
    refine g_lald (npc := 38) dX11_isDone_37 rfl arSM_16 h4 ?_
    obtain ⟨h5, hT⟩ := hT
    refine g_ldiv (npc := 39) dX11_isDone_38 rfl h5.1 h5.2 ?_
    refine g_iconst (npc := 40) dX11_isDone_39 rfl ?_
    obtain ⟨Q6, h7, hT⟩ := hT
    refine iv_Mo_194 (npc := 43) dX11_isDone_40 rfl rfl (Nat.le_of_ble_eq_true rfl) (by decide) h7 (fun s8 e10 => ?_)
    replace hT := hT s8 e10
    refine g_iload_n (npc := 44) dX11_isDone_43 rfl rfl rfl ?_
    obtain ⟨h11, hTt, hTf⟩ := hT
    refine g_if_eq (npc := 47) (tgt := 68) dX11_isDone_44 rfl (by decide) h11 (fun c12 => ?_) (fun c12 => ?_)
    · replace hT := hTt c12
      refine g_iconst (npc := 69) dX11_isDone_68 rfl ?_
      refine g_istore_n (npc := 70) (l' := [(0, .ref 0), (1, iV x1), (2, iV x2), (3, iV 0), (4, iV x4)]) dX11_isDone_69 rfl rfl (by decide) rfl ?_
      refine g_iinc (npc := 73) (y := (x4 + 1)) (l' := [(0, .ref 0), (1, iV x1), (2, iV x2), (3, iV 0), (4, iV (x4 + 1))]) dX11_isDone_70 rfl (by decide) rfl (by omega) rfl ?_
      refine g_goto (npc := 7) dX11_isDone_73 (by decide) ?_
      exact hT
    · replace hT := hTf c12
      refine g_aload_n (npc := 48) dX11_isDone_47 rfl rfl rfl ?_
      refine gf_Mo_57 (npc := 51) dX11_isDone_48 rfl rfl ?_
      refine g_bipush (npc := 53) (x := 7) dX11_isDone_51 rfl (by decide) ?_
      refine g_iload (npc := 55) dX11_isDone_53 rfl rfl ?_
      refine g_imul (npc := 56) dX11_isDone_55 rfl ?_
      refine g_iload_n (npc := 57) dX11_isDone_56 rfl rfl rfl ?_
      refine g_iadd (npc := 58) dX11_isDone_57 rfl ?_
      obtain ⟨h13, hT⟩ := hT
      refine g_lald (npc := 59) dX11_isDone_58 rfl arSM_16 h13 ?_
      refine g_lconst (npc := 60) (x := 0) dX11_isDone_59 rfl (by decide) ?_
      obtain ⟨h14, hTt, hTf⟩ := hT
      refine g_lne (pc2 := 61) (npc := 64) (tgt := 68) dX11_isDone_60 rfl dX11_isDone_61 rfl (by decide) ⟨h14, by decide, by decide⟩ (fun c15 => ?_) (fun c15 => ?_)
      · replace hT := hTt c15
        refine g_iconst (npc := 69) dX11_isDone_68 rfl ?_
        refine g_istore_n (npc := 70) (l' := [(0, .ref 0), (1, iV x1), (2, iV x2), (3, iV 0), (4, iV x4)]) dX11_isDone_69 rfl rfl (by decide) rfl ?_
        refine g_iinc (npc := 73) (y := (x4 + 1)) (l' := [(0, .ref 0), (1, iV x1), (2, iV x2), (3, iV 0), (4, iV (x4 + 1))]) dX11_isDone_70 rfl (by decide) rfl (by omega) rfl ?_
        refine g_goto (npc := 7) dX11_isDone_73 (by decide) ?_
        exact hT
      · replace hT := hTf (Decidable.not_not.mp c15)
        refine g_iconst (npc := 65) dX11_isDone_64 rfl ?_
        refine g_goto (npc := 69) dX11_isDone_65 (by decide) ?_
        refine g_istore_n (npc := 70) (l' := [(0, .ref 0), (1, iV x1), (2, iV x2), (3, iV 1), (4, iV x4)]) dX11_isDone_69 rfl rfl (by decide) rfl ?_
        refine g_iinc (npc := 73) (y := (x4 + 1)) (l' := [(0, .ref 0), (1, iV x1), (2, iV x2), (3, iV 1), (4, iV (x4 + 1))]) dX11_isDone_70 rfl (by decide) rfl (by omega) rfl ?_
        refine g_goto (npc := 7) dX11_isDone_73 (by decide) ?_
        exact hT
set_option maxRecDepth 20000 in
theorem b_Mo_isDone_81 {Q : Int → Sto → Prop} {x1 : Int} {x2 : Int} {x3 : Int} {x4 : Int} {s : Sto} (hT : ((-2147483648 ≤ x4 ∧ x4 < 2147483648) ∧ -2147483648 ≤ x2 ∧ x2 < 2147483648) ∧ ((x2 ≤ x4) → H_Mo_isDone_155 Q x1 x2 x3 (x1 + 1) s) ∧ ((x4 < x2) → (0 ≤ ((7 * x1) + x4) ∧ ((7 * x1) + x4) < 49) ∧ (0 ≤ (8 * x1) ∧ (8 * x1) < 49) ∧ (((-9223372036854775808 ≤ (s 16 (Int.toNat ((7 * x1) + x4))) ∧ (s 16 (Int.toNat ((7 * x1) + x4))) < 9223372036854775808) ∧ -9223372036854775808 ≤ (s 16 (Int.toNat (8 * x1))) ∧ (s 16 (Int.toNat (8 * x1))) < 9223372036854775808) ∧ ¬ (s 16 (Int.toNat (8 * x1))) = 0) ∧ ∃ Q21 : Sto → Prop, K_Mo_lessen x4 x1 (Int.tdiv (s 16 (Int.toNat ((7 * x1) + x4))) (s 16 (Int.toNat (8 * x1)))) 1 s Q21 ∧ ∀ s23, Q21 s23 → (-2147483648 ≤ x3 ∧ x3 < 2147483648) ∧ ((x3 = 0) → H_Mo_isDone_81 Q x1 x2 0 (x4 + 1) s23) ∧ ((¬ x3 = 0) → (0 ≤ ((7 * x1) + x4) ∧ ((7 * x1) + x4) < 49) ∧ (-9223372036854775808 ≤ (s23 16 (Int.toNat ((7 * x1) + x4))) ∧ (s23 16 (Int.toNat ((7 * x1) + x4))) < 9223372036854775808) ∧ ((¬ (s23 16 (Int.toNat ((7 * x1) + x4))) = 0) → H_Mo_isDone_81 Q x1 x2 0 (x4 + 1) s23) ∧ (((s23 16 (Int.toNat ((7 * x1) + x4))) = 0) → H_Mo_isDone_81 Q x1 x2 1 (x4 + 1) s23)))) : H_Mo_isDone_81 Q x1 x2 x3 x4 s := by
  refine g_iload (npc := 83) dX11_isDone_81 rfl rfl ?_
  refine g_iload_n (npc := 84) dX11_isDone_83 rfl rfl rfl ?_
  obtain ⟨h16, hTt, hTf⟩ := hT
  refine g_icmp_ge (npc := 87) (tgt := 150) dX11_isDone_84 rfl (by decide) h16 (fun c17 => ?_) (fun c17 => ?_)
  · replace hT := hTt c17
    refine g_iload_n (npc := 151) dX11_isDone_150 rfl rfl rfl ?_
    refine g_iconst (npc := 152) dX11_isDone_151 rfl ?_
    refine g_iadd (npc := 153) dX11_isDone_152 rfl ?_
    refine g_istore (npc := 155) (l' := [(0, .ref 0), (1, iV x1), (2, iV x2), (3, iV x3), (4, iV (x1 + 1))]) dX11_isDone_153 rfl (by decide) rfl ?_
    exact hT
  · replace hT := hTf (Int.not_le.mp c17)
    refine g_aload_n (npc := 88) dX11_isDone_87 rfl rfl rfl ?_
    refine g_iload (npc := 90) dX11_isDone_88 rfl rfl ?_
    refine g_iload_n (npc := 91) dX11_isDone_90 rfl rfl rfl ?_
    refine g_aload_n (npc := 92) dX11_isDone_91 rfl rfl rfl ?_
    refine gf_Mo_57 (npc := 95) dX11_isDone_92 rfl rfl ?_
    refine g_bipush (npc := 97) (x := 7) dX11_isDone_95 rfl (by decide) ?_
    refine g_iload_n (npc := 98) dX11_isDone_97 rfl rfl rfl ?_
    refine g_imul (npc := 99) dX11_isDone_98 rfl ?_
    refine g_iload (npc := 101) dX11_isDone_99 rfl rfl ?_
    refine g_iadd (npc := 102) dX11_isDone_101 rfl ?_
    obtain ⟨h18, hT⟩ := hT
    refine g_lald (npc := 103) dX11_isDone_102 rfl arSM_16 h18 ?_
    refine g_aload_n (npc := 104) dX11_isDone_103 rfl rfl rfl ?_
    refine gf_Mo_57 (npc := 107) dX11_isDone_104 rfl rfl ?_
    refine g_bipush (npc := 109) (x := 8) dX11_isDone_107 rfl (by decide) ?_
    refine g_iload_n (npc := 110) dX11_isDone_109 rfl rfl rfl ?_
    refine g_imul (npc := 111) dX11_isDone_110 rfl ?_
    obtain ⟨h19, hT⟩ := hT
    refine g_lald (npc := 112) dX11_isDone_111 rfl arSM_16 h19 ?_
    obtain ⟨h20, hT⟩ := hT
    refine g_ldiv (npc := 113) dX11_isDone_112 rfl h20.1 h20.2 ?_
    refine g_iconst (npc := 114) dX11_isDone_113 rfl ?_
    obtain ⟨Q21, h22, hT⟩ := hT
    refine iv_Mo_194 (npc := 117) dX11_isDone_114 rfl rfl (Nat.le_of_ble_eq_true rfl) (by decide) h22 (fun s23 e25 => ?_)
    replace hT := hT s23 e25
    refine g_iload_n (npc := 118) dX11_isDone_117 rfl rfl rfl ?_
    obtain ⟨h26, hTt, hTf⟩ := hT
    refine g_if_eq (npc := 121) (tgt := 142) dX11_isDone_118 rfl (by decide) h26 (fun c27 => ?_) (fun c27 => ?_)
    · replace hT := hTt c27
      refine g_iconst (npc := 143) dX11_isDone_142 rfl ?_
      refine g_istore_n (npc := 144) (l' := [(0, .ref 0), (1, iV x1), (2, iV x2), (3, iV 0), (4, iV x4)]) dX11_isDone_143 rfl rfl (by decide) rfl ?_
      refine g_iinc (npc := 147) (y := (x4 + 1)) (l' := [(0, .ref 0), (1, iV x1), (2, iV x2), (3, iV 0), (4, iV (x4 + 1))]) dX11_isDone_144 rfl (by decide) rfl (by omega) rfl ?_
      refine g_goto (npc := 81) dX11_isDone_147 (by decide) ?_
      exact hT
    · replace hT := hTf c27
      refine g_aload_n (npc := 122) dX11_isDone_121 rfl rfl rfl ?_
      refine gf_Mo_57 (npc := 125) dX11_isDone_122 rfl rfl ?_
      refine g_bipush (npc := 127) (x := 7) dX11_isDone_125 rfl (by decide) ?_
      refine g_iload_n (npc := 128) dX11_isDone_127 rfl rfl rfl ?_
      refine g_imul (npc := 129) dX11_isDone_128 rfl ?_
      refine g_iload (npc := 131) dX11_isDone_129 rfl rfl ?_
      refine g_iadd (npc := 132) dX11_isDone_131 rfl ?_
      obtain ⟨h28, hT⟩ := hT
      refine g_lald (npc := 133) dX11_isDone_132 rfl arSM_16 h28 ?_
      refine g_lconst (npc := 134) (x := 0) dX11_isDone_133 rfl (by decide) ?_
      obtain ⟨h29, hTt, hTf⟩ := hT
      refine g_lne (pc2 := 135) (npc := 138) (tgt := 142) dX11_isDone_134 rfl dX11_isDone_135 rfl (by decide) ⟨h29, by decide, by decide⟩ (fun c30 => ?_) (fun c30 => ?_)
      · replace hT := hTt c30
        refine g_iconst (npc := 143) dX11_isDone_142 rfl ?_
        refine g_istore_n (npc := 144) (l' := [(0, .ref 0), (1, iV x1), (2, iV x2), (3, iV 0), (4, iV x4)]) dX11_isDone_143 rfl rfl (by decide) rfl ?_
        refine g_iinc (npc := 147) (y := (x4 + 1)) (l' := [(0, .ref 0), (1, iV x1), (2, iV x2), (3, iV 0), (4, iV (x4 + 1))]) dX11_isDone_144 rfl (by decide) rfl (by omega) rfl ?_
        refine g_goto (npc := 81) dX11_isDone_147 (by decide) ?_
        exact hT
      · replace hT := hTf (Decidable.not_not.mp c30)
        refine g_iconst (npc := 139) dX11_isDone_138 rfl ?_
        refine g_goto (npc := 143) dX11_isDone_139 (by decide) ?_
        refine g_istore_n (npc := 144) (l' := [(0, .ref 0), (1, iV x1), (2, iV x2), (3, iV 1), (4, iV x4)]) dX11_isDone_143 rfl rfl (by decide) rfl ?_
        refine g_iinc (npc := 147) (y := (x4 + 1)) (l' := [(0, .ref 0), (1, iV x1), (2, iV x2), (3, iV 1), (4, iV (x4 + 1))]) dX11_isDone_144 rfl (by decide) rfl (by omega) rfl ?_
        refine g_goto (npc := 81) dX11_isDone_147 (by decide) ?_
        exact hT
set_option maxRecDepth 20000 in
theorem b_Mo_isDone_155 {Q : Int → Sto → Prop} {x1 : Int} {x2 : Int} {x3 : Int} {x4 : Int} {s : Sto} (hT : ((-2147483648 ≤ x4 ∧ x4 < 2147483648) ∧ -2147483648 ≤ x2 ∧ x2 < 2147483648) ∧ ((x2 ≤ x4) → (x3 = 0 ∨ x3 = 1) ∧ Q x3 s) ∧ ((x4 < x2) → (-2147483648 ≤ x3 ∧ x3 < 2147483648) ∧ ((x3 = 0) → (x3 = 0 ∨ x3 = 1) ∧ Q x3 s) ∧ ((¬ x3 = 0) → H_Mo_isDone_170 Q x1 x2 x3 x4 (x1 + 1) s))) : H_Mo_isDone_155 Q x1 x2 x3 x4 s := by
  refine g_iload (npc := 157) dX11_isDone_155 rfl rfl ?_
  refine g_iload_n (npc := 158) dX11_isDone_157 rfl rfl rfl ?_
  obtain ⟨h31, hTt, hTf⟩ := hT
  refine g_icmp_ge (npc := 161) (tgt := 233) dX11_isDone_158 rfl (by decide) h31 (fun c32 => ?_) (fun c32 => ?_)
  · replace hT := hTt c32
    refine g_iload_n (npc := 234) dX11_isDone_233 rfl rfl rfl ?_
    obtain ⟨h33, hT⟩ := hT
    exact g_iret dX11_isDone_234 rfl (nar_zv h33) ⟨_, rfl, hT⟩
  · replace hT := hTf (Int.not_le.mp c32)
    refine g_iload_n (npc := 162) dX11_isDone_161 rfl rfl rfl ?_
    obtain ⟨h34, hTt, hTf⟩ := hT
    refine g_if_eq (npc := 165) (tgt := 233) dX11_isDone_162 rfl (by decide) h34 (fun c35 => ?_) (fun c35 => ?_)
    · replace hT := hTt c35
      refine g_iload_n (npc := 234) dX11_isDone_233 rfl rfl rfl ?_
      obtain ⟨h36, hT⟩ := hT
      exact g_iret dX11_isDone_234 rfl (nar_zv h36) ⟨_, rfl, hT⟩
    · replace hT := hTf c35
      refine g_iload_n (npc := 166) dX11_isDone_165 rfl rfl rfl ?_
      refine g_iconst (npc := 167) dX11_isDone_166 rfl ?_
      refine g_iadd (npc := 168) dX11_isDone_167 rfl ?_
      refine g_istore (npc := 170) (l' := [(0, .ref 0), (1, iV x1), (2, iV x2), (3, iV x3), (4, iV x4), (5, iV (x1 + 1))]) dX11_isDone_168 rfl (by decide) rfl ?_
      exact hT
set_option maxRecDepth 20000 in
theorem b_Mo_isDone_170 {Q : Int → Sto → Prop} {x1 : Int} {x2 : Int} {x3 : Int} {x4 : Int} {x5 : Int} {s : Sto} (hT : ((-2147483648 ≤ x5 ∧ x5 < 2147483648) ∧ -2147483648 ≤ x2 ∧ x2 < 2147483648) ∧ ((x2 ≤ x5) → H_Mo_isDone_155 Q x1 x2 x3 (x4 + 1) s) ∧ ((x5 < x2) → (-2147483648 ≤ x3 ∧ x3 < 2147483648) ∧ ((x3 = 0) → H_Mo_isDone_155 Q x1 x2 x3 (x4 + 1) s) ∧ ((¬ x3 = 0) → (0 ≤ ((7 * x4) + x5) ∧ ((7 * x4) + x5) < 49) ∧ (0 ≤ (8 * x1) ∧ (8 * x1) < 49) ∧ (((-9223372036854775808 ≤ (s 16 (Int.toNat ((7 * x4) + x5))) ∧ (s 16 (Int.toNat ((7 * x4) + x5))) < 9223372036854775808) ∧ -9223372036854775808 ≤ (s 16 (Int.toNat (8 * x1))) ∧ (s 16 (Int.toNat (8 * x1))) < 9223372036854775808) ∧ ¬ (s 16 (Int.toNat (8 * x1))) = 0) ∧ (-9223372036854775808 ≤ (Int.tmod (s 16 (Int.toNat ((7 * x4) + x5))) (s 16 (Int.toNat (8 * x1)))) ∧ (Int.tmod (s 16 (Int.toNat ((7 * x4) + x5))) (s 16 (Int.toNat (8 * x1)))) < 9223372036854775808) ∧ (((Int.tmod (s 16 (Int.toNat ((7 * x4) + x5))) (s 16 (Int.toNat (8 * x1)))) = 0) → H_Mo_isDone_170 Q x1 x2 x3 x4 (x5 + 1) s) ∧ ((¬ (Int.tmod (s 16 (Int.toNat ((7 * x4) + x5))) (s 16 (Int.toNat (8 * x1)))) = 0) → ∃ Q46 : Sto → Prop, K_Mo_lessen x1 x4 (-1) 0 s Q46 ∧ ∀ s48, Q46 s48 → H_Mo_isDone_170 Q x1 x2 0 x4 (x5 + 1) s48)))) : H_Mo_isDone_170 Q x1 x2 x3 x4 x5 s := by
  refine g_iload (npc := 172) dX11_isDone_170 rfl rfl ?_
  refine g_iload_n (npc := 173) dX11_isDone_172 rfl rfl rfl ?_
  obtain ⟨h37, hTt, hTf⟩ := hT
  refine g_icmp_ge (npc := 176) (tgt := 227) dX11_isDone_173 rfl (by decide) h37 (fun c38 => ?_) (fun c38 => ?_)
  · replace hT := hTt c38
    refine g_iinc (npc := 230) (y := (x4 + 1)) (l' := [(0, .ref 0), (1, iV x1), (2, iV x2), (3, iV x3), (4, iV (x4 + 1)), (5, iV x5)]) dX11_isDone_227 rfl (by decide) rfl (by omega) rfl ?_
    refine g_goto (npc := 155) dX11_isDone_230 (by decide) ?_
    refine Go.lsub [0, 1, 2, 3, 4] rfl ?_
    exact hT
  · replace hT := hTf (Int.not_le.mp c38)
    refine g_iload_n (npc := 177) dX11_isDone_176 rfl rfl rfl ?_
    obtain ⟨h39, hTt, hTf⟩ := hT
    refine g_if_eq (npc := 180) (tgt := 227) dX11_isDone_177 rfl (by decide) h39 (fun c40 => ?_) (fun c40 => ?_)
    · replace hT := hTt c40
      refine g_iinc (npc := 230) (y := (x4 + 1)) (l' := [(0, .ref 0), (1, iV x1), (2, iV x2), (3, iV x3), (4, iV (x4 + 1)), (5, iV x5)]) dX11_isDone_227 rfl (by decide) rfl (by omega) rfl ?_
      refine g_goto (npc := 155) dX11_isDone_230 (by decide) ?_
      refine Go.lsub [0, 1, 2, 3, 4] rfl ?_
      exact hT
    · replace hT := hTf c40
      refine g_aload_n (npc := 181) dX11_isDone_180 rfl rfl rfl ?_
      refine gf_Mo_57 (npc := 184) dX11_isDone_181 rfl rfl ?_
      refine g_bipush (npc := 186) (x := 7) dX11_isDone_184 rfl (by decide) ?_
      refine g_iload (npc := 188) dX11_isDone_186 rfl rfl ?_
      refine g_imul (npc := 189) dX11_isDone_188 rfl ?_
      refine g_iload (npc := 191) dX11_isDone_189 rfl rfl ?_
      refine g_iadd (npc := 192) dX11_isDone_191 rfl ?_
      obtain ⟨h41, hT⟩ := hT
      refine g_lald (npc := 193) dX11_isDone_192 rfl arSM_16 h41 ?_
      refine g_aload_n (npc := 194) dX11_isDone_193 rfl rfl rfl ?_
      refine gf_Mo_57 (npc := 197) dX11_isDone_194 rfl rfl ?_
      refine g_bipush (npc := 199) (x := 8) dX11_isDone_197 rfl (by decide) ?_
      refine g_iload_n (npc := 200) dX11_isDone_199 rfl rfl rfl ?_
      refine g_imul (npc := 201) dX11_isDone_200 rfl ?_
      obtain ⟨h42, hT⟩ := hT
      refine g_lald (npc := 202) dX11_isDone_201 rfl arSM_16 h42 ?_
      obtain ⟨h43, hT⟩ := hT
      refine g_lrem (npc := 203) dX11_isDone_202 rfl h43.1 h43.2 ?_
      refine g_lconst (npc := 204) (x := 0) dX11_isDone_203 rfl (by decide) ?_
      obtain ⟨h44, hTt, hTf⟩ := hT
      refine g_leq (pc2 := 205) (npc := 208) (tgt := 221) dX11_isDone_204 rfl dX11_isDone_205 rfl (by decide) ⟨h44, by decide, by decide⟩ (fun c45 => ?_) (fun c45 => ?_)
      · replace hT := hTt c45
        refine g_iinc (npc := 224) (y := (x5 + 1)) (l' := [(0, .ref 0), (1, iV x1), (2, iV x2), (3, iV x3), (4, iV x4), (5, iV (x5 + 1))]) dX11_isDone_221 rfl (by decide) rfl (by omega) rfl ?_
        refine g_goto (npc := 170) dX11_isDone_224 (by decide) ?_
        exact hT
      · replace hT := hTf c45
        refine g_aload_n (npc := 209) dX11_isDone_208 rfl rfl rfl ?_
        refine g_iload_n (npc := 210) dX11_isDone_209 rfl rfl rfl ?_
        refine g_iload (npc := 212) dX11_isDone_210 rfl rfl ?_
        refine g_ldc2 (npc := 215) (x := (-1)) dX11_isDone_212 rfl tw_1201 ?_
        refine g_iconst (npc := 216) dX11_isDone_215 rfl ?_
        obtain ⟨Q46, h47, hT⟩ := hT
        refine iv_Mo_194 (npc := 219) dX11_isDone_216 rfl rfl (Nat.le_of_ble_eq_true rfl) (by decide) h47 (fun s48 e50 => ?_)
        replace hT := hT s48 e50
        refine g_iconst (npc := 220) dX11_isDone_219 rfl ?_
        refine g_istore_n (npc := 221) (l' := [(0, .ref 0), (1, iV x1), (2, iV x2), (3, iV 0), (4, iV x4), (5, iV x5)]) dX11_isDone_220 rfl rfl (by decide) rfl ?_
        refine g_iinc (npc := 224) (y := (x5 + 1)) (l' := [(0, .ref 0), (1, iV x1), (2, iV x2), (3, iV 0), (4, iV x4), (5, iV (x5 + 1))]) dX11_isDone_221 rfl (by decide) rfl (by omega) rfl ?_
        refine g_goto (npc := 170) dX11_isDone_224 (by decide) ?_
        exact hT
set_option maxRecDepth 20000 in
theorem e_Mo_isDone {x1 : Int} {x2 : Int} {s : Sto} {Q : Int → Sto → Prop} (hT : H_Mo_isDone_7 Q x1 x2 1 (x1 + 1) s) : K_Mo_isDone x1 x2 s Q := by
  refine Sp.body (by decide) (Nat.le_of_ble_eq_true rfl) ?_
  show Go SM M_Mo_isDone (fI Q) 0 [(0, .ref 0), (1, iV x1), (2, iV x2)] [] s
  refine g_iconst (npc := 1) dX11_isDone_0 rfl ?_
  refine g_istore_n (npc := 2) (l' := [(0, .ref 0), (1, iV x1), (2, iV x2), (3, iV 1)]) dX11_isDone_1 rfl rfl (by decide) rfl ?_
  refine g_iload_n (npc := 3) dX11_isDone_2 rfl rfl rfl ?_
  refine g_iconst (npc := 4) dX11_isDone_3 rfl ?_
  refine g_iadd (npc := 5) dX11_isDone_4 rfl ?_
  refine g_istore (npc := 7) (l' := [(0, .ref 0), (1, iV x1), (2, iV x2), (3, iV 1), (4, iV (x1 + 1))]) dX11_isDone_5 rfl (by decide) rfl ?_
  exact hT
abbrev H_Mo_smith_13 (Q : Sto → Prop) (x1 : Int) (x2 : Int) (s : Sto) : Prop := Go SM M_Mo_smith (fV0 Q) 13 [(0, .ref 0), (1, iV x1), (2, iV x2)] [] s
abbrev H_Mo_smith_20 (Q : Sto → Prop) (x1 : Int) (x2 : Int) (x3 : Int) (s : Sto) : Prop := Go SM M_Mo_smith (fV0 Q) 20 [(0, .ref 0), (1, iV x1), (2, iV x2), (3, iV x3)] [] s
set_option maxRecDepth 20000 in
theorem b_Mo_smith_13 {Q : Sto → Prop} {x1 : Int} {x2 : Int} {s : Sto} (hT : ((-2147483648 ≤ x2 ∧ x2 < 2147483648) ∧ -2147483648 ≤ x1 ∧ x1 < 2147483648) ∧ ((x1 ≤ x2) → Q s) ∧ ((x2 < x1) → H_Mo_smith_20 Q x1 x2 0 s)) : H_Mo_smith_13 Q x1 x2 s := by
  refine g_iload_n (npc := 14) dX11_smith_13 rfl rfl rfl ?_
  refine g_iload_n (npc := 15) dX11_smith_14 rfl rfl rfl ?_
  obtain ⟨h6, hTt, hTf⟩ := hT
  refine g_icmp_ge (npc := 18) (tgt := 49) dX11_smith_15 rfl (by decide) h6 (fun c7 => ?_) (fun c7 => ?_)
  · replace hT := hTt c7
    exact g_ret dX11_smith_49 rfl ⟨rfl, hT⟩
  · replace hT := hTf (Int.not_le.mp c7)
    refine g_iconst (npc := 19) dX11_smith_18 rfl ?_
    refine g_istore_n (npc := 20) (l' := [(0, .ref 0), (1, iV x1), (2, iV x2), (3, iV 0)]) dX11_smith_19 rfl rfl (by decide) rfl ?_
    exact hT
set_option maxRecDepth 20000 in
theorem b_Mo_smith_20 {Q : Sto → Prop} {x1 : Int} {x2 : Int} {x3 : Int} {s : Sto} (hT : (-2147483648 ≤ x3 ∧ x3 < 2147483648) ∧ ((¬ x3 = 0) → H_Mo_smith_13 Q x1 (x2 + 1) s) ∧ ((x3 = 0) → ∃ Q10 : Int → Sto → Prop, K_Mo_bringLeast x2 x1 s Q10 ∧ ∀ r13 s12, Q10 r13 s12 → (-2147483648 ≤ r13 ∧ r13 < 2147483648) ∧ ((r13 = 0) → H_Mo_smith_13 Q x1 (x2 + 1) s12) ∧ ((¬ r13 = 0) → ∃ Q17 : Int → Sto → Prop, K_Mo_isDone x2 x1 s12 Q17 ∧ ∀ r20 s19, Q17 r20 s19 → H_Mo_smith_20 Q x1 x2 r20 s19))) : H_Mo_smith_20 Q x1 x2 x3 s := by
  refine g_iload_n (npc := 21) dX11_smith_20 rfl rfl rfl ?_
  obtain ⟨h8, hTt, hTf⟩ := hT
  refine g_if_ne (npc := 24) (tgt := 43) dX11_smith_21 rfl (by decide) h8 (fun c9 => ?_) (fun c9 => ?_)
  · replace hT := hTt c9
    refine g_iinc (npc := 46) (y := (x2 + 1)) (l' := [(0, .ref 0), (1, iV x1), (2, iV (x2 + 1)), (3, iV x3)]) dX11_smith_43 rfl (by decide) rfl (by omega) rfl ?_
    refine g_goto (npc := 13) dX11_smith_46 (by decide) ?_
    refine Go.lsub [0, 1, 2] rfl ?_
    exact hT
  · replace hT := hTf (Decidable.not_not.mp c9)
    refine g_aload_n (npc := 25) dX11_smith_24 rfl rfl rfl ?_
    refine g_iload_n (npc := 26) dX11_smith_25 rfl rfl rfl ?_
    refine g_iload_n (npc := 27) dX11_smith_26 rfl rfl rfl ?_
    obtain ⟨Q10, h11, hT⟩ := hT
    refine iv_Mo_203 (npc := 30) dX11_smith_27 rfl rfl (Nat.le_of_ble_eq_true rfl) (by decide) h11 (fun r13 s12 e14 => ?_)
    replace hT := hT r13 s12 e14
    obtain ⟨h15, hTt, hTf⟩ := hT
    refine g_if_eq (npc := 33) (tgt := 43) dX11_smith_30 rfl (by decide) h15 (fun c16 => ?_) (fun c16 => ?_)
    · replace hT := hTt c16
      refine g_iinc (npc := 46) (y := (x2 + 1)) (l' := [(0, .ref 0), (1, iV x1), (2, iV (x2 + 1)), (3, iV x3)]) dX11_smith_43 rfl (by decide) rfl (by omega) rfl ?_
      refine g_goto (npc := 13) dX11_smith_46 (by decide) ?_
      refine Go.lsub [0, 1, 2] rfl ?_
      exact hT
    · replace hT := hTf c16
      refine g_aload_n (npc := 34) dX11_smith_33 rfl rfl rfl ?_
      refine g_iload_n (npc := 35) dX11_smith_34 rfl rfl rfl ?_
      refine g_iload_n (npc := 36) dX11_smith_35 rfl rfl rfl ?_
      obtain ⟨Q17, h18, hT⟩ := hT
      refine iv_Mo_207 (npc := 39) dX11_smith_36 rfl rfl (Nat.le_of_ble_eq_true rfl) (by decide) h18 (fun r20 s19 e21 => ?_)
      replace hT := hT r20 s19 e21
      refine g_istore_n (npc := 40) (l' := [(0, .ref 0), (1, iV x1), (2, iV x2), (3, iV r20)]) dX11_smith_39 rfl rfl (by decide) rfl ?_
      refine g_goto (npc := 20) dX11_smith_40 (by decide) ?_
      exact hT
set_option maxRecDepth 20000 in
theorem e_Mo_smith {s : Sto} {Q : Sto → Prop} (hT : ∃ Q1 : Sto → Prop, K_Mo_layMatrix s Q1 ∧ ∀ s3, Q1 s3 → H_Mo_smith_13 Q ((s3 0 0) - 1) 0 s3) : K_Mo_smith s Q := by
  refine Sp.body (by decide) (Nat.le_of_ble_eq_true rfl) ?_
  show Go SM M_Mo_smith (fV0 Q) 0 [(0, .ref 0)] [] s
  refine g_aload_n (npc := 1) dX11_smith_0 rfl rfl rfl ?_
  obtain ⟨Q1, h2, hT⟩ := hT
  refine iv_Mo_200 (npc := 4) dX11_smith_1 rfl rfl (Nat.le_of_ble_eq_true rfl) (by decide) h2 (fun s3 e5 => ?_)
  replace hT := hT s3 e5
  refine g_aload_n (npc := 5) dX11_smith_4 rfl rfl rfl ?_
  refine gf_Mo_77 (npc := 8) dX11_smith_5 rfl rfl ?_
  refine g_iconst (npc := 9) dX11_smith_8 rfl ?_
  refine g_isub (npc := 10) dX11_smith_9 rfl ?_
  refine g_istore_n (npc := 11) (l' := [(0, .ref 0), (1, iV ((s3 0 0) - 1))]) dX11_smith_10 rfl rfl (by decide) rfl ?_
  refine g_iconst (npc := 12) dX11_smith_11 rfl ?_
  refine g_istore_n (npc := 13) (l' := [(0, .ref 0), (1, iV ((s3 0 0) - 1)), (2, iV 0)]) dX11_smith_12 rfl rfl (by decide) rfl ?_
  exact hT
abbrev H_Mo_treeCount_17 (Q : Int → Sto → Prop) (x1 : Int) (x3 : Int) (s : Sto) : Prop := Go SM M_Mo_treeCount (fJ Q) 17 [(0, .ref 0), (1, jV x1), (3, iV x3)] [] s
set_option maxRecDepth 20000 in
theorem b_Mo_treeCount_17 {Q : Int → Sto → Prop} {x1 : Int} {x3 : Int} {s : Sto} (hT : ((-2147483648 ≤ x3 ∧ x3 < 2147483648) ∧ -2147483648 ≤ ((s 0 0) - 1) ∧ ((s 0 0) - 1) < 2147483648) ∧ ((((s 0 0) - 1) ≤ x3) → Q x1 s) ∧ ((x3 < ((s 0 0) - 1)) → (0 ≤ (8 * x3) ∧ (8 * x3) < 49) ∧ ∃ Q16 : Int → Sto → Prop, K_Mo_size (s 16 (Int.toNat (8 * x3))) s Q16 ∧ ∀ r19 s18, Q16 r19 s18 → H_Mo_treeCount_17 Q (x1 * r19) (x3 + 1) s18)) : H_Mo_treeCount_17 Q x1 x3 s := by
  refine g_iload_n (npc := 18) dX11_treeCount_17 rfl rfl rfl ?_
  refine g_aload_n (npc := 19) dX11_treeCount_18 rfl rfl rfl ?_
  refine gf_Mo_77 (npc := 22) dX11_treeCount_19 rfl rfl ?_
  refine g_iconst (npc := 23) dX11_treeCount_22 rfl ?_
  refine g_isub (npc := 24) dX11_treeCount_23 rfl ?_
  obtain ⟨h13, hTt, hTf⟩ := hT
  refine g_icmp_ge (npc := 27) (tgt := 48) dX11_treeCount_24 rfl (by decide) h13 (fun c14 => ?_) (fun c14 => ?_)
  · replace hT := hTt c14
    refine g_lload_n (npc := 49) dX11_treeCount_48 rfl rfl rfl ?_
    exact g_lret dX11_treeCount_49 rfl ⟨_, rfl, hT⟩
  · replace hT := hTf (Int.not_le.mp c14)
    refine g_lload_n (npc := 28) dX11_treeCount_27 rfl rfl rfl ?_
    refine g_aload_n (npc := 29) dX11_treeCount_28 rfl rfl rfl ?_
    refine gf_Mo_57 (npc := 32) dX11_treeCount_29 rfl rfl ?_
    refine g_bipush (npc := 34) (x := 8) dX11_treeCount_32 rfl (by decide) ?_
    refine g_iload_n (npc := 35) dX11_treeCount_34 rfl rfl rfl ?_
    refine g_imul (npc := 36) dX11_treeCount_35 rfl ?_
    obtain ⟨h15, hT⟩ := hT
    refine g_lald (npc := 37) dX11_treeCount_36 rfl arSM_16 h15 ?_
    obtain ⟨Q16, h17, hT⟩ := hT
    refine iv_Mo_186 (npc := 40) dX11_treeCount_37 rfl rfl (Nat.le_of_ble_eq_true rfl) (by decide) h17 (fun r19 s18 e20 => ?_)
    replace hT := hT r19 s18 e20
    refine g_lmul (npc := 41) dX11_treeCount_40 rfl ?_
    refine g_lstore_n (npc := 42) (l' := [(0, .ref 0), (1, jV (x1 * r19)), (3, iV x3)]) dX11_treeCount_41 rfl rfl (by decide) rfl ?_
    refine g_iinc (npc := 45) (y := (x3 + 1)) (l' := [(0, .ref 0), (1, jV (x1 * r19)), (3, iV (x3 + 1))]) dX11_treeCount_42 rfl (by decide) rfl (by omega) rfl ?_
    refine g_goto (npc := 17) dX11_treeCount_45 (by decide) ?_
    exact hT
set_option maxRecDepth 20000 in
theorem e_Mo_treeCount {s : Sto} {Q : Int → Sto → Prop} (hT : ∃ Q1 : Int → Sto → Prop, K_Mo_isConnected s Q1 ∧ ∀ r4 s3, Q1 r4 s3 → (-2147483648 ≤ r4 ∧ r4 < 2147483648) ∧ ((¬ r4 = 0) → ∃ Q8 : Sto → Prop, K_Mo_smith s3 Q8 ∧ ∀ s10, Q8 s10 → H_Mo_treeCount_17 Q 1 0 s10) ∧ ((r4 = 0) → Q 0 s3)) : K_Mo_treeCount s Q := by
  refine Sp.body (by decide) (Nat.le_of_ble_eq_true rfl) ?_
  show Go SM M_Mo_treeCount (fJ Q) 0 [(0, .ref 0)] [] s
  refine g_aload_n (npc := 1) dX11_treeCount_0 rfl rfl rfl ?_
  obtain ⟨Q1, h2, hT⟩ := hT
  refine iv_Mo_119 (npc := 4) dX11_treeCount_1 rfl rfl (Nat.le_of_ble_eq_true rfl) (by decide) h2 (fun r4 s3 e5 => ?_)
  replace hT := hT r4 s3 e5
  obtain ⟨h6, hTt, hTf⟩ := hT
  refine g_if_ne (npc := 7) (tgt := 9) dX11_treeCount_4 rfl (by decide) h6 (fun c7 => ?_) (fun c7 => ?_)
  · replace hT := hTt c7
    refine g_aload_n (npc := 10) dX11_treeCount_9 rfl rfl rfl ?_
    obtain ⟨Q8, h9, hT⟩ := hT
    refine iv_Mo_210 (npc := 13) dX11_treeCount_10 rfl rfl (Nat.le_of_ble_eq_true rfl) (by decide) h9 (fun s10 e12 => ?_)
    replace hT := hT s10 e12
    refine g_lconst (npc := 14) (x := 1) dX11_treeCount_13 rfl (by decide) ?_
    refine g_lstore_n (npc := 15) (l' := [(0, .ref 0), (1, jV 1)]) dX11_treeCount_14 rfl rfl (by decide) rfl ?_
    refine g_iconst (npc := 16) dX11_treeCount_15 rfl ?_
    refine g_istore_n (npc := 17) (l' := [(0, .ref 0), (1, jV 1), (3, iV 0)]) dX11_treeCount_16 rfl rfl (by decide) rfl ?_
    exact hT
  · replace hT := hTf (Decidable.not_not.mp c7)
    refine g_lconst (npc := 8) (x := 0) dX11_treeCount_7 rfl (by decide) ?_
    exact g_lret dX11_treeCount_8 rfl ⟨_, rfl, hT⟩
set_option maxRecDepth 20000 in
theorem e_Mo_lost {s : Sto} {Q : Int → Sto → Prop} (hT : Q (-9223372036854775808) s) : K_Mo_lost s Q := by
  refine Sp.body (by decide) (Nat.le_of_ble_eq_true rfl) ?_
  show Go SM M_Mo_lost (fJ Q) 0 [] [] s
  refine g_ldc2 (npc := 3) (x := (-9223372036854775808)) dX11_lost_0 rfl tw_1209 ?_
  exact g_lret dX11_lost_3 rfl ⟨_, rfl, hT⟩
abbrev H_Mo_factor_24 (Q : Int → Sto → Prop) (x1 : Int) (x2 : Int) (x3 : Int) (s : Sto) : Prop := Go SM M_Mo_factor (fJ Q) 24 [(0, .ref 0), (1, iV x1), (2, iV x2), (3, iV x3)] [] s
set_option maxRecDepth 20000 in
theorem b_Mo_factor_24 {Q : Int → Sto → Prop} {x1 : Int} {x2 : Int} {x3 : Int} {s : Sto} (hT : ((-2147483648 ≤ x3 ∧ x3 < 2147483648) ∧ -2147483648 ≤ ((s 0 0) - 1) ∧ ((s 0 0) - 1) < 2147483648) ∧ ((((s 0 0) - 1) ≤ x3) → (-2147483648 ≤ x1 ∧ x1 < 2147483648) ∧ ((0 ≤ x1) → ∃ Q29 : Int → Sto → Prop, K_Mo_lost s Q29 ∧ ∀ r32 s31, Q29 r32 s31 → Q r32 s31) ∧ ((x1 < 0) → (-2147483648 ≤ x2 ∧ x2 < 2147483648) ∧ Q x2 s)) ∧ ((x3 < ((s 0 0) - 1)) → (0 ≤ (8 * x3) ∧ (8 * x3) < 49) ∧ ∃ Q36 : Int → Sto → Prop, K_Mo_size (s 16 (Int.toNat (8 * x3))) s Q36 ∧ ∀ r39 s38, Q36 r39 s38 → (-9223372036854775808 ≤ r39 ∧ r39 < 9223372036854775808) ∧ ((r39 ≤ 1) → H_Mo_factor_24 Q x1 x2 (x3 + 1) s38) ∧ ((1 < r39) → ((-2147483648 ≤ x2 ∧ x2 < 2147483648) ∧ -2147483648 ≤ x1 ∧ x1 < 2147483648) ∧ ((¬ x2 = x1) → H_Mo_factor_24 Q x1 (x2 + 1) (x3 + 1) s38) ∧ ((x2 = x1) → Q r39 s38)))) : H_Mo_factor_24 Q x1 x2 x3 s := by
  refine g_iload_n (npc := 25) dX11_factor_24 rfl rfl rfl ?_
  refine g_aload_n (npc := 26) dX11_factor_25 rfl rfl rfl ?_
  refine gf_Mo_77 (npc := 29) dX11_factor_26 rfl rfl ?_
  refine g_iconst (npc := 30) dX11_factor_29 rfl ?_
  refine g_isub (npc := 31) dX11_factor_30 rfl ?_
  obtain ⟨h25, hTt, hTf⟩ := hT
  refine g_icmp_ge (npc := 34) (tgt := 72) dX11_factor_31 rfl (by decide) h25 (fun c26 => ?_) (fun c26 => ?_)
  · replace hT := hTt c26
    refine g_iload_n (npc := 73) dX11_factor_72 rfl rfl rfl ?_
    obtain ⟨h27, hTt, hTf⟩ := hT
    refine g_if_ge (npc := 76) (tgt := 81) dX11_factor_73 rfl (by decide) h27 (fun c28 => ?_) (fun c28 => ?_)
    · replace hT := hTt c28
      obtain ⟨Q29, h30, hT⟩ := hT
      refine iv_Mo_213 (npc := 84) dX11_factor_81 rfl rfl (Nat.le_of_ble_eq_true rfl) (by decide) h30 (fun r32 s31 e33 => ?_)
      replace hT := hT r32 s31 e33
      exact g_lret dX11_factor_84 rfl ⟨_, rfl, hT⟩
    · replace hT := hTf (Int.not_le.mp c28)
      refine g_iload_n (npc := 77) dX11_factor_76 rfl rfl rfl ?_
      obtain ⟨h34, hT⟩ := hT
      refine g_i2l (npc := 78) dX11_factor_77 rfl h34 ?_
      refine g_goto (npc := 84) dX11_factor_78 (by decide) ?_
      exact g_lret dX11_factor_84 rfl ⟨_, rfl, hT⟩
  · replace hT := hTf (Int.not_le.mp c26)
    refine g_aload_n (npc := 35) dX11_factor_34 rfl rfl rfl ?_
    refine gf_Mo_57 (npc := 38) dX11_factor_35 rfl rfl ?_
    refine g_bipush (npc := 40) (x := 8) dX11_factor_38 rfl (by decide) ?_
    refine g_iload_n (npc := 41) dX11_factor_40 rfl rfl rfl ?_
    refine g_imul (npc := 42) dX11_factor_41 rfl ?_
    obtain ⟨h35, hT⟩ := hT
    refine g_lald (npc := 43) dX11_factor_42 rfl arSM_16 h35 ?_
    obtain ⟨Q36, h37, hT⟩ := hT
    refine iv_Mo_186 (npc := 46) dX11_factor_43 rfl rfl (Nat.le_of_ble_eq_true rfl) (by decide) h37 (fun r39 s38 e40 => ?_)
    replace hT := hT r39 s38 e40
    refine g_lstore (npc := 48) (l' := [(0, .ref 0), (1, iV x1), (2, iV x2), (3, iV x3), (4, jV r39)]) dX11_factor_46 rfl (by decide) rfl ?_
    refine g_lload (npc := 50) dX11_factor_48 rfl rfl ?_
    refine g_lconst (npc := 51) (x := 1) dX11_factor_50 rfl (by decide) ?_
    obtain ⟨h41, hTt, hTf⟩ := hT
    refine g_lle (pc2 := 52) (npc := 55) (tgt := 66) dX11_factor_51 rfl dX11_factor_52 rfl (by decide) ⟨h41, by decide, by decide⟩ (fun c42 => ?_) (fun c42 => ?_)
    · replace hT := hTt c42
      refine g_iinc (npc := 69) (y := (x3 + 1)) (l' := [(0, .ref 0), (1, iV x1), (2, iV x2), (3, iV (x3 + 1)), (4, jV r39)]) dX11_factor_66 rfl (by decide) rfl (by omega) rfl ?_
      refine g_goto (npc := 24) dX11_factor_69 (by decide) ?_
      refine Go.lsub [0, 1, 2, 3] rfl ?_
      exact hT
    · replace hT := hTf (Int.not_le.mp c42)
      refine g_iload_n (npc := 56) dX11_factor_55 rfl rfl rfl ?_
      refine g_iload_n (npc := 57) dX11_factor_56 rfl rfl rfl ?_
      obtain ⟨h43, hTt, hTf⟩ := hT
      refine g_icmp_ne (npc := 60) (tgt := 63) dX11_factor_57 rfl (by decide) h43 (fun c44 => ?_) (fun c44 => ?_)
      · replace hT := hTt c44
        refine g_iinc (npc := 66) (y := (x2 + 1)) (l' := [(0, .ref 0), (1, iV x1), (2, iV (x2 + 1)), (3, iV x3), (4, jV r39)]) dX11_factor_63 rfl (by decide) rfl (by omega) rfl ?_
        refine g_iinc (npc := 69) (y := (x3 + 1)) (l' := [(0, .ref 0), (1, iV x1), (2, iV (x2 + 1)), (3, iV (x3 + 1)), (4, jV r39)]) dX11_factor_66 rfl (by decide) rfl (by omega) rfl ?_
        refine g_goto (npc := 24) dX11_factor_69 (by decide) ?_
        refine Go.lsub [0, 1, 2, 3] rfl ?_
        exact hT
      · replace hT := hTf (Decidable.not_not.mp c44)
        refine g_lload (npc := 62) dX11_factor_60 rfl rfl ?_
        exact g_lret dX11_factor_62 rfl ⟨_, rfl, hT⟩
set_option maxRecDepth 20000 in
theorem e_Mo_factor {x1 : Int} {s : Sto} {Q : Int → Sto → Prop} (hT : (-2147483648 ≤ x1 ∧ x1 < 2147483648) ∧ ((x1 < (-1)) → ∃ Q3 : Int → Sto → Prop, K_Mo_lost s Q3 ∧ ∀ r6 s5, Q3 r6 s5 → Q r6 s5) ∧ (((-1) ≤ x1) → ∃ Q8 : Int → Sto → Prop, K_Mo_isConnected s Q8 ∧ ∀ r11 s10, Q8 r11 s10 → (-2147483648 ≤ r11 ∧ r11 < 2147483648) ∧ ((¬ r11 = 0) → ∃ Q15 : Sto → Prop, K_Mo_smith s10 Q15 ∧ ∀ s17, Q15 s17 → H_Mo_factor_24 Q x1 0 0 s17) ∧ ((r11 = 0) → ∃ Q20 : Int → Sto → Prop, K_Mo_lost s10 Q20 ∧ ∀ r23 s22, Q20 r23 s22 → Q r23 s22))) : K_Mo_factor x1 s Q := by
  refine Sp.body (by decide) (Nat.le_of_ble_eq_true rfl) ?_
  show Go SM M_Mo_factor (fJ Q) 0 [(0, .ref 0), (1, iV x1)] [] s
  refine g_iload_n (npc := 1) dX11_factor_0 rfl rfl rfl ?_
  refine g_iconst (npc := 2) dX11_factor_1 rfl ?_
  obtain ⟨h1, hTt, hTf⟩ := hT
  refine g_icmp_lt (npc := 5) (tgt := 12) dX11_factor_2 rfl (by decide) ⟨h1, by decide, by decide⟩ (fun c2 => ?_) (fun c2 => ?_)
  · replace hT := hTt c2
    obtain ⟨Q3, h4, hT⟩ := hT
    refine iv_Mo_213 (npc := 15) dX11_factor_12 rfl rfl (Nat.le_of_ble_eq_true rfl) (by decide) h4 (fun r6 s5 e7 => ?_)
    replace hT := hT r6 s5 e7
    exact g_lret dX11_factor_15 rfl ⟨_, rfl, hT⟩
  · replace hT := hTf (Int.not_lt.mp c2)
    refine g_aload_n (npc := 6) dX11_factor_5 rfl rfl rfl ?_
    obtain ⟨Q8, h9, hT⟩ := hT
    refine iv_Mo_119 (npc := 9) dX11_factor_6 rfl rfl (Nat.le_of_ble_eq_true rfl) (by decide) h9 (fun r11 s10 e12 => ?_)
    replace hT := hT r11 s10 e12
    obtain ⟨h13, hTt, hTf⟩ := hT
    refine g_if_ne (npc := 12) (tgt := 16) dX11_factor_9 rfl (by decide) h13 (fun c14 => ?_) (fun c14 => ?_)
    · replace hT := hTt c14
      refine g_aload_n (npc := 17) dX11_factor_16 rfl rfl rfl ?_
      obtain ⟨Q15, h16, hT⟩ := hT
      refine iv_Mo_210 (npc := 20) dX11_factor_17 rfl rfl (Nat.le_of_ble_eq_true rfl) (by decide) h16 (fun s17 e19 => ?_)
      replace hT := hT s17 e19
      refine g_iconst (npc := 21) dX11_factor_20 rfl ?_
      refine g_istore_n (npc := 22) (l' := [(0, .ref 0), (1, iV x1), (2, iV 0)]) dX11_factor_21 rfl rfl (by decide) rfl ?_
      refine g_iconst (npc := 23) dX11_factor_22 rfl ?_
      refine g_istore_n (npc := 24) (l' := [(0, .ref 0), (1, iV x1), (2, iV 0), (3, iV 0)]) dX11_factor_23 rfl rfl (by decide) rfl ?_
      exact hT
    · replace hT := hTf (Decidable.not_not.mp c14)
      obtain ⟨Q20, h21, hT⟩ := hT
      refine iv_Mo_213 (npc := 15) dX11_factor_12 rfl rfl (Nat.le_of_ble_eq_true rfl) (by decide) h21 (fun r23 s22 e24 => ?_)
      replace hT := hT r23 s22 e24
      exact g_lret dX11_factor_15 rfl ⟨_, rfl, hT⟩
abbrev H_Mo_identity_25 (Q : Int → Sto → Prop) (x1 : Int) (x2 : Int) (s : Sto) : Prop := Go SM M_Mo_identity (fI Q) 25 [(0, .ref 0), (1, iV x1), (2, iV x2)] [] s
set_option maxRecDepth 20000 in
theorem b_Mo_identity_25 {Q : Int → Sto → Prop} {x1 : Int} {x2 : Int} {s : Sto} (hT : (-2147483648 ≤ x2 ∧ x2 < 2147483648) ∧ ((8 ≤ x2) → ∃ Q17 : Sto → Prop, K_Mo_raise 12 s Q17 ∧ ∀ s19, Q17 s19 → (0 ≤ x1 ∧ x1 < 8) ∧ Q (s19 12 (Int.toNat x1)) s19) ∧ ((x2 < 8) → (0 ≤ x2 ∧ x2 < 8) ∧ ∀ s24, s24 = up s 12 (Int.toNat x2) 0 → H_Mo_identity_25 Q x1 (x2 + 1) s24)) : H_Mo_identity_25 Q x1 x2 s := by
  refine g_iload_n (npc := 26) dX11_identity_25 rfl rfl rfl ?_
  refine g_bipush (npc := 28) (x := 8) dX11_identity_26 rfl (by decide) ?_
  obtain ⟨h15, hTt, hTf⟩ := hT
  refine g_icmp_ge (npc := 31) (tgt := 44) dX11_identity_28 rfl (by decide) ⟨h15, by decide, by decide⟩ (fun c16 => ?_) (fun c16 => ?_)
  · replace hT := hTt c16
    refine g_aload_n (npc := 45) dX11_identity_44 rfl rfl rfl ?_
    refine g_aload_n (npc := 46) dX11_identity_45 rfl rfl rfl ?_
    refine gf_Mo_45 (npc := 49) dX11_identity_46 rfl rfl ?_
    obtain ⟨Q17, h18, hT⟩ := hT
    refine iv_Mo_170 (npc := 52) dX11_identity_49 rfl rfl (Nat.le_of_ble_eq_true rfl) (by decide) h18 (fun s19 e21 => ?_)
    replace hT := hT s19 e21
    refine g_aload_n (npc := 53) dX11_identity_52 rfl rfl rfl ?_
    refine gf_Mo_45 (npc := 56) dX11_identity_53 rfl rfl ?_
    refine g_iload_n (npc := 57) dX11_identity_56 rfl rfl rfl ?_
    obtain ⟨h22, hT⟩ := hT
    refine g_iald (npc := 58) dX11_identity_57 rfl arSM_12 h22 ?_
    exact g_iret dX11_identity_58 rfl rfl ⟨_, rfl, hT⟩
  · replace hT := hTf (Int.not_le.mp c16)
    refine g_aload_n (npc := 32) dX11_identity_31 rfl rfl rfl ?_
    refine gf_Mo_45 (npc := 35) dX11_identity_32 rfl rfl ?_
    refine g_iload_n (npc := 36) dX11_identity_35 rfl rfl rfl ?_
    refine g_iconst (npc := 37) dX11_identity_36 rfl ?_
    obtain ⟨h23, hT⟩ := hT
    replace hT := hT _ rfl
    refine g_iast (npc := 38) dX11_identity_37 rfl arSM_12 h23  ?_
    refine g_iinc (npc := 41) (y := (x2 + 1)) (l' := [(0, .ref 0), (1, iV x1), (2, iV (x2 + 1))]) dX11_identity_38 rfl (by decide) rfl (by omega) rfl ?_
    refine g_goto (npc := 25) dX11_identity_41 (by decide) ?_
    exact hT
set_option maxRecDepth 20000 in
theorem e_Mo_identity {x1 : Int} {s : Sto} {Q : Int → Sto → Prop} (hT : ∃ Q1 : Int → Sto → Prop, K_Mo_hasChips x1 s Q1 ∧ ∀ r4 s3, Q1 r4 s3 → (-2147483648 ≤ r4 ∧ r4 < 2147483648) ∧ ((¬ r4 = 0) → ∃ Q8 : Int → Sto → Prop, K_Mo_isConnected s3 Q8 ∧ ∀ r11 s10, Q8 r11 s10 → (-2147483648 ≤ r11 ∧ r11 < 2147483648) ∧ ((¬ r11 = 0) → H_Mo_identity_25 Q x1 0 s10) ∧ ((r11 = 0) → Q (-10003) s10)) ∧ ((r4 = 0) → Q (-10001) s3)) : K_Mo_identity x1 s Q := by
  refine Sp.body (by decide) (Nat.le_of_ble_eq_true rfl) ?_
  show Go SM M_Mo_identity (fI Q) 0 [(0, .ref 0), (1, iV x1)] [] s
  refine g_aload_n (npc := 1) dX11_identity_0 rfl rfl rfl ?_
  refine g_iload_n (npc := 2) dX11_identity_1 rfl rfl rfl ?_
  obtain ⟨Q1, h2, hT⟩ := hT
  refine iv_Mo_130 (npc := 5) dX11_identity_2 rfl rfl (Nat.le_of_ble_eq_true rfl) (by decide) h2 (fun r4 s3 e5 => ?_)
  replace hT := hT r4 s3 e5
  obtain ⟨h6, hTt, hTf⟩ := hT
  refine g_if_ne (npc := 8) (tgt := 12) dX11_identity_5 rfl (by decide) h6 (fun c7 => ?_) (fun c7 => ?_)
  · replace hT := hTt c7
    refine g_aload_n (npc := 13) dX11_identity_12 rfl rfl rfl ?_
    obtain ⟨Q8, h9, hT⟩ := hT
    refine iv_Mo_119 (npc := 16) dX11_identity_13 rfl rfl (Nat.le_of_ble_eq_true rfl) (by decide) h9 (fun r11 s10 e12 => ?_)
    replace hT := hT r11 s10 e12
    obtain ⟨h13, hTt, hTf⟩ := hT
    refine g_if_ne (npc := 19) (tgt := 23) dX11_identity_16 rfl (by decide) h13 (fun c14 => ?_) (fun c14 => ?_)
    · replace hT := hTt c14
      refine g_iconst (npc := 24) dX11_identity_23 rfl ?_
      refine g_istore_n (npc := 25) (l' := [(0, .ref 0), (1, iV x1), (2, iV 0)]) dX11_identity_24 rfl rfl (by decide) rfl ?_
      exact hT
    · replace hT := hTf (Decidable.not_not.mp c14)
      refine g_sipush (npc := 22) (x := (-10003)) dX11_identity_19 rfl (by decide) ?_
      exact g_iret dX11_identity_22 rfl rfl ⟨_, rfl, hT⟩
  · replace hT := hTf (Decidable.not_not.mp c7)
    refine g_sipush (npc := 11) (x := (-10001)) dX11_identity_8 rfl (by decide) ?_
    exact g_iret dX11_identity_11 rfl rfl ⟨_, rfl, hT⟩
abbrev H_Mo_isEmpty_4 (Q : Int → Sto → Prop) (k0 : Nat) (x1 : Int) (x2 : Int) (s : Sto) : Prop := Go SM M_Mo_isEmpty (fI Q) 4 [(0, .ref k0), (1, iV x1), (2, iV x2)] [] s
set_option maxRecDepth 20000 in
theorem b_Mo_isEmpty_4 {Q : Int → Sto → Prop} {k0 : Nat} {x1 : Int} {x2 : Int} (hk0 : ar SM k0 1 8) {s : Sto} (hT : (-2147483648 ≤ x2 ∧ x2 < 2147483648) ∧ ((8 ≤ x2) → (-2147483648 ≤ x1 ∧ x1 < 2147483648) ∧ ((¬ x1 = 0) → Q 0 s) ∧ ((x1 = 0) → Q 1 s)) ∧ ((x2 < 8) → (0 ≤ x2 ∧ x2 < 8) ∧ H_Mo_isEmpty_4 Q k0 (x1 + (s k0 (Int.toNat x2))) (x2 + 1) s)) : H_Mo_isEmpty_4 Q k0 x1 x2 s := by
  refine g_iload_n (npc := 5) dX11_isEmpty_4 rfl rfl rfl ?_
  refine g_bipush (npc := 7) (x := 8) dX11_isEmpty_5 rfl (by decide) ?_
  obtain ⟨h1, hTt, hTf⟩ := hT
  refine g_icmp_ge (npc := 10) (tgt := 22) dX11_isEmpty_7 rfl (by decide) ⟨h1, by decide, by decide⟩ (fun c2 => ?_) (fun c2 => ?_)
  · replace hT := hTt c2
    refine g_iload_n (npc := 23) dX11_isEmpty_22 rfl rfl rfl ?_
    obtain ⟨h3, hTt, hTf⟩ := hT
    refine g_if_ne (npc := 26) (tgt := 30) dX11_isEmpty_23 rfl (by decide) h3 (fun c4 => ?_) (fun c4 => ?_)
    · replace hT := hTt c4
      refine g_iconst (npc := 31) dX11_isEmpty_30 rfl ?_
      exact g_iret dX11_isEmpty_31 rfl (by decide) ⟨_, rfl, hT⟩
    · replace hT := hTf (Decidable.not_not.mp c4)
      refine g_iconst (npc := 27) dX11_isEmpty_26 rfl ?_
      refine g_goto (npc := 31) dX11_isEmpty_27 (by decide) ?_
      exact g_iret dX11_isEmpty_31 rfl (by decide) ⟨_, rfl, hT⟩
  · replace hT := hTf (Int.not_le.mp c2)
    refine g_iload_n (npc := 11) dX11_isEmpty_10 rfl rfl rfl ?_
    refine g_aload_n (npc := 12) dX11_isEmpty_11 rfl rfl rfl ?_
    refine g_iload_n (npc := 13) dX11_isEmpty_12 rfl rfl rfl ?_
    obtain ⟨h5, hT⟩ := hT
    refine g_iald (npc := 14) dX11_isEmpty_13 rfl hk0 h5 ?_
    refine g_iadd (npc := 15) dX11_isEmpty_14 rfl ?_
    refine g_istore_n (npc := 16) (l' := [(0, .ref k0), (1, iV (x1 + (s k0 (Int.toNat x2)))), (2, iV x2)]) dX11_isEmpty_15 rfl rfl (by decide) rfl ?_
    refine g_iinc (npc := 19) (y := (x2 + 1)) (l' := [(0, .ref k0), (1, iV (x1 + (s k0 (Int.toNat x2)))), (2, iV (x2 + 1))]) dX11_isEmpty_16 rfl (by decide) rfl (by omega) rfl ?_
    refine g_goto (npc := 4) dX11_isEmpty_19 (by decide) ?_
    exact hT
set_option maxRecDepth 20000 in
theorem e_Mo_isEmpty {k0 : Nat} (hk0 : ar SM k0 1 8) {s : Sto} {Q : Int → Sto → Prop} (hT : H_Mo_isEmpty_4 Q k0 0 0 s) : K_Mo_isEmpty k0 s Q := by
  refine Sp.body (by decide) (Nat.le_of_ble_eq_true rfl) ?_
  show Go SM M_Mo_isEmpty (fI Q) 0 [(0, .ref k0)] [] s
  refine g_iconst (npc := 1) dX11_isEmpty_0 rfl ?_
  refine g_istore_n (npc := 2) (l' := [(0, .ref k0), (1, iV 0)]) dX11_isEmpty_1 rfl rfl (by decide) rfl ?_
  refine g_iconst (npc := 3) dX11_isEmpty_2 rfl ?_
  refine g_istore_n (npc := 4) (l' := [(0, .ref k0), (1, iV 0), (2, iV 0)]) dX11_isEmpty_3 rfl rfl (by decide) rfl ?_
  exact hT
abbrev H_Mo_order_54 (Q : Int → Sto → Prop) (x1 : Int) (x2 : Int) (s : Sto) : Prop := Go SM M_Mo_order (fI Q) 54 [(0, .ref 0), (1, iV x1), (2, iV x2)] [] s
abbrev H_Mo_order_60 (Q : Int → Sto → Prop) (x1 : Int) (x3 : Int) (s : Sto) : Prop := Go SM M_Mo_order (fI Q) 60 [(0, .ref 0), (1, iV x1), (3, iV x3)] [] s
set_option maxRecDepth 20000 in
theorem b_Mo_order_54 {Q : Int → Sto → Prop} {x1 : Int} {x2 : Int} {s : Sto} (hT : (-2147483648 ≤ x2 ∧ x2 < 2147483648) ∧ ((¬ x2 = 0) → Q x1 s) ∧ ((x2 = 0) → H_Mo_order_60 Q x1 0 s)) : H_Mo_order_54 Q x1 x2 s := by
  refine g_iload_n (npc := 55) dX11_order_54 rfl rfl rfl ?_
  obtain ⟨h28, hTt, hTf⟩ := hT
  refine g_if_ne (npc := 58) (tgt := 110) dX11_order_55 rfl (by decide) h28 (fun c29 => ?_) (fun c29 => ?_)
  · replace hT := hTt c29
    refine g_iload_n (npc := 111) dX11_order_110 rfl rfl rfl ?_
    exact g_iret dX11_order_111 rfl rfl ⟨_, rfl, hT⟩
  · replace hT := hTf (Decidable.not_not.mp c29)
    refine g_iconst (npc := 59) dX11_order_58 rfl ?_
    refine g_istore_n (npc := 60) (l' := [(0, .ref 0), (1, iV x1), (2, iV x2), (3, iV 0)]) dX11_order_59 rfl rfl (by decide) rfl ?_
    refine Go.lsub [0, 1, 3] rfl ?_
    exact hT
set_option maxRecDepth 20000 in
theorem b_Mo_order_60 {Q : Int → Sto → Prop} {x1 : Int} {x3 : Int} {s : Sto} (hT : (-2147483648 ≤ x3 ∧ x3 < 2147483648) ∧ ((8 ≤ x3) → ∃ Q32 : Int → Sto → Prop, K_Mo_lower 12 s Q32 ∧ ∀ r35 s34, Q32 r35 s34 → ∃ Q37 : Int → Sto → Prop, K_Mo_isEmpty 12 s34 Q37 ∧ ∀ r40 s39, Q37 r40 s39 → H_Mo_order_54 Q (x1 + 1) r40 s39) ∧ ((x3 < 8) → (0 ≤ x3 ∧ x3 < 8) ∧ (0 ≤ x3 ∧ x3 < 8) ∧ (0 ≤ x3 ∧ x3 < 8) ∧ ∀ s45, s45 = up s 12 (Int.toNat x3) ((s 12 (Int.toNat x3)) + (s 15 (Int.toNat x3))) → H_Mo_order_60 Q x1 (x3 + 1) s45)) : H_Mo_order_60 Q x1 x3 s := by
  refine g_iload_n (npc := 61) dX11_order_60 rfl rfl rfl ?_
  refine g_bipush (npc := 63) (x := 8) dX11_order_61 rfl (by decide) ?_
  obtain ⟨h30, hTt, hTf⟩ := hT
  refine g_icmp_ge (npc := 66) (tgt := 87) dX11_order_63 rfl (by decide) ⟨h30, by decide, by decide⟩ (fun c31 => ?_) (fun c31 => ?_)
  · replace hT := hTt c31
    refine g_aload_n (npc := 88) dX11_order_87 rfl rfl rfl ?_
    refine g_aload_n (npc := 89) dX11_order_88 rfl rfl rfl ?_
    refine gf_Mo_45 (npc := 92) dX11_order_89 rfl rfl ?_
    obtain ⟨Q32, h33, hT⟩ := hT
    refine iv_Mo_167 (npc := 95) dX11_order_92 rfl rfl (Nat.le_of_ble_eq_true rfl) (by decide) h33 (fun r35 s34 e36 => ?_)
    replace hT := hT r35 s34 e36
    refine g_pop (npc := 96) dX11_order_95 rfl rfl ?_
    refine g_iinc (npc := 99) (y := (x1 + 1)) (l' := [(0, .ref 0), (1, iV (x1 + 1)), (3, iV x3)]) dX11_order_96 rfl (by decide) rfl (by omega) rfl ?_
    refine g_aload_n (npc := 100) dX11_order_99 rfl rfl rfl ?_
    refine gf_Mo_45 (npc := 103) dX11_order_100 rfl rfl ?_
    obtain ⟨Q37, h38, hT⟩ := hT
    refine iv_Mo_217 (npc := 106) dX11_order_103 rfl rfl (Nat.le_of_ble_eq_true rfl) (by decide) h38 (fun r40 s39 e41 => ?_)
    replace hT := hT r40 s39 e41
    refine g_istore_n (npc := 107) (l' := [(0, .ref 0), (1, iV (x1 + 1)), (2, iV r40), (3, iV x3)]) dX11_order_106 rfl rfl (by decide) rfl ?_
    refine g_goto (npc := 54) dX11_order_107 (by decide) ?_
    refine Go.lsub [0, 1, 2] rfl ?_
    exact hT
  · replace hT := hTf (Int.not_le.mp c31)
    refine g_aload_n (npc := 67) dX11_order_66 rfl rfl rfl ?_
    refine gf_Mo_45 (npc := 70) dX11_order_67 rfl rfl ?_
    refine g_iload_n (npc := 71) dX11_order_70 rfl rfl rfl ?_
    refine g_dup2 (npc := 72) dX11_order_71 rfl rfl rfl ?_
    obtain ⟨h42, hT⟩ := hT
    refine g_iald (npc := 73) dX11_order_72 rfl arSM_12 h42 ?_
    refine g_aload_n (npc := 74) dX11_order_73 rfl rfl rfl ?_
    refine gf_Mo_54 (npc := 77) dX11_order_74 rfl rfl ?_
    refine g_iload_n (npc := 78) dX11_order_77 rfl rfl rfl ?_
    obtain ⟨h43, hT⟩ := hT
    refine g_iald (npc := 79) dX11_order_78 rfl arSM_15 h43 ?_
    refine g_iadd (npc := 80) dX11_order_79 rfl ?_
    obtain ⟨h44, hT⟩ := hT
    replace hT := hT _ rfl
    refine g_iast (npc := 81) dX11_order_80 rfl arSM_12 h44  ?_
    refine g_iinc (npc := 84) (y := (x3 + 1)) (l' := [(0, .ref 0), (1, iV x1), (3, iV (x3 + 1))]) dX11_order_81 rfl (by decide) rfl (by omega) rfl ?_
    refine g_goto (npc := 60) dX11_order_84 (by decide) ?_
    exact hT
set_option maxRecDepth 20000 in
theorem e_Mo_order {s : Sto} {Q : Int → Sto → Prop} (hT : ∃ Q1 : Int → Sto → Prop, K_Mo_isConnected s Q1 ∧ ∀ r4 s3, Q1 r4 s3 → (-2147483648 ≤ r4 ∧ r4 < 2147483648) ∧ ((¬ r4 = 0) → ∃ Q8 : Sto → Prop, K_Mo_copy 5 15 s3 Q8 ∧ ∀ s10, Q8 s10 → ∃ Q13 : Int → Sto → Prop, K_Mo_lower 15 s10 Q13 ∧ ∀ r16 s15, Q13 r16 s15 → ∃ Q18 : Sto → Prop, K_Mo_copy 15 12 s15 Q18 ∧ ∀ s20, Q18 s20 → ∃ Q23 : Int → Sto → Prop, K_Mo_isEmpty 12 s20 Q23 ∧ ∀ r26 s25, Q23 r26 s25 → H_Mo_order_54 Q 1 r26 s25) ∧ ((r4 = 0) → Q (-10003) s3)) : K_Mo_order s Q := by
  refine Sp.body (by decide) (Nat.le_of_ble_eq_true rfl) ?_
  show Go SM M_Mo_order (fI Q) 0 [(0, .ref 0)] [] s
  refine g_aload_n (npc := 1) dX11_order_0 rfl rfl rfl ?_
  obtain ⟨Q1, h2, hT⟩ := hT
  refine iv_Mo_119 (npc := 4) dX11_order_1 rfl rfl (Nat.le_of_ble_eq_true rfl) (by decide) h2 (fun r4 s3 e5 => ?_)
  replace hT := hT r4 s3 e5
  obtain ⟨h6, hTt, hTf⟩ := hT
  refine g_if_ne (npc := 7) (tgt := 11) dX11_order_4 rfl (by decide) h6 (fun c7 => ?_) (fun c7 => ?_)
  · replace hT := hTt c7
    refine g_aload_n (npc := 12) dX11_order_11 rfl rfl rfl ?_
    refine g_aload_n (npc := 13) dX11_order_12 rfl rfl rfl ?_
    refine gf_Mo_22 (npc := 16) dX11_order_13 rfl rfl ?_
    refine g_aload_n (npc := 17) dX11_order_16 rfl rfl rfl ?_
    refine gf_Mo_54 (npc := 20) dX11_order_17 rfl rfl ?_
    obtain ⟨Q8, h9, hT⟩ := hT
    refine iv_Mo_148 (npc := 23) dX11_order_20 rfl rfl (Nat.le_of_ble_eq_true rfl) (by decide) h9 (fun s10 e12 => ?_)
    replace hT := hT s10 e12
    refine g_aload_n (npc := 24) dX11_order_23 rfl rfl rfl ?_
    refine g_aload_n (npc := 25) dX11_order_24 rfl rfl rfl ?_
    refine gf_Mo_54 (npc := 28) dX11_order_25 rfl rfl ?_
    obtain ⟨Q13, h14, hT⟩ := hT
    refine iv_Mo_167 (npc := 31) dX11_order_28 rfl rfl (Nat.le_of_ble_eq_true rfl) (by decide) h14 (fun r16 s15 e17 => ?_)
    replace hT := hT r16 s15 e17
    refine g_pop (npc := 32) dX11_order_31 rfl rfl ?_
    refine g_aload_n (npc := 33) dX11_order_32 rfl rfl rfl ?_
    refine g_aload_n (npc := 34) dX11_order_33 rfl rfl rfl ?_
    refine gf_Mo_54 (npc := 37) dX11_order_34 rfl rfl ?_
    refine g_aload_n (npc := 38) dX11_order_37 rfl rfl rfl ?_
    refine gf_Mo_45 (npc := 41) dX11_order_38 rfl rfl ?_
    obtain ⟨Q18, h19, hT⟩ := hT
    refine iv_Mo_148 (npc := 44) dX11_order_41 rfl rfl (Nat.le_of_ble_eq_true rfl) (by decide) h19 (fun s20 e22 => ?_)
    replace hT := hT s20 e22
    refine g_iconst (npc := 45) dX11_order_44 rfl ?_
    refine g_istore_n (npc := 46) (l' := [(0, .ref 0), (1, iV 1)]) dX11_order_45 rfl rfl (by decide) rfl ?_
    refine g_aload_n (npc := 47) dX11_order_46 rfl rfl rfl ?_
    refine gf_Mo_45 (npc := 50) dX11_order_47 rfl rfl ?_
    obtain ⟨Q23, h24, hT⟩ := hT
    refine iv_Mo_217 (npc := 53) dX11_order_50 rfl rfl (Nat.le_of_ble_eq_true rfl) (by decide) h24 (fun r26 s25 e27 => ?_)
    replace hT := hT r26 s25 e27
    refine g_istore_n (npc := 54) (l' := [(0, .ref 0), (1, iV 1), (2, iV r26)]) dX11_order_53 rfl rfl (by decide) rfl ?_
    exact hT
  · replace hT := hTf (Decidable.not_not.mp c7)
    refine g_sipush (npc := 10) (x := (-10003)) dX11_order_7 rfl (by decide) ?_
    exact g_iret dX11_order_10 rfl rfl ⟨_, rfl, hT⟩
set_option maxRecDepth 20000 in
theorem e_Mo_level {s : Sto} {Q : Int → Sto → Prop} (hT : ∃ Q1 : Int → Sto → Prop, K_Mo_isRecurrent 5 s Q1 ∧ ∀ r4 s3, Q1 r4 s3 → (-2147483648 ≤ r4 ∧ r4 < 2147483648) ∧ ((r4 = 0) → Q (-10004) s3) ∧ ((¬ r4 = 0) → ∃ Q8 : Int → Sto → Prop, K_Mo_sum s3 Q8 ∧ ∀ r11 s10, Q8 r11 s10 → ∃ Q13 : Int → Sto → Prop, K_Mo_inner s10 Q13 ∧ ∀ r16 s15, Q13 r16 s15 → Q (r11 - r16) s15)) : K_Mo_level s Q := by
  refine Sp.body (by decide) (Nat.le_of_ble_eq_true rfl) ?_
  show Go SM M_Mo_level (fI Q) 0 [(0, .ref 0)] [] s
  refine g_aload_n (npc := 1) dX11_level_0 rfl rfl rfl ?_
  refine g_aload_n (npc := 2) dX11_level_1 rfl rfl rfl ?_
  refine gf_Mo_22 (npc := 5) dX11_level_2 rfl rfl ?_
  obtain ⟨Q1, h2, hT⟩ := hT
  refine iv_Mo_177 (npc := 8) dX11_level_5 rfl rfl (Nat.le_of_ble_eq_true rfl) (by decide) h2 (fun r4 s3 e5 => ?_)
  replace hT := hT r4 s3 e5
  obtain ⟨h6, hTt, hTf⟩ := hT
  refine g_if_eq (npc := 11) (tgt := 23) dX11_level_8 rfl (by decide) h6 (fun c7 => ?_) (fun c7 => ?_)
  · replace hT := hTt c7
    refine g_sipush (npc := 26) (x := (-10004)) dX11_level_23 rfl (by decide) ?_
    exact g_iret dX11_level_26 rfl rfl ⟨_, rfl, hT⟩
  · replace hT := hTf c7
    refine g_aload_n (npc := 12) dX11_level_11 rfl rfl rfl ?_
    obtain ⟨Q8, h9, hT⟩ := hT
    refine iv_Mo_123 (npc := 15) dX11_level_12 rfl rfl (Nat.le_of_ble_eq_true rfl) (by decide) h9 (fun r11 s10 e12 => ?_)
    replace hT := hT r11 s10 e12
    refine g_aload_n (npc := 16) dX11_level_15 rfl rfl rfl ?_
    obtain ⟨Q13, h14, hT⟩ := hT
    refine iv_Mo_127 (npc := 19) dX11_level_16 rfl rfl (Nat.le_of_ble_eq_true rfl) (by decide) h14 (fun r16 s15 e17 => ?_)
    replace hT := hT r16 s15 e17
    refine g_isub (npc := 20) dX11_level_19 rfl ?_
    refine g_goto (npc := 26) dX11_level_20 (by decide) ?_
    exact g_iret dX11_level_26 rfl rfl ⟨_, rfl, hT⟩
abbrev H_Mo_countLevels_2 (Q : Sto → Prop) (x1 : Int) (s : Sto) : Prop := Go SM M_Mo_countLevels (fV0 Q) 2 [(0, .ref 0), (1, iV x1)] [] s
abbrev H_Mo_countLevels_25 (Q : Sto → Prop) (x1 : Int) (x2 : Int) (s : Sto) : Prop := Go SM M_Mo_countLevels (fV0 Q) 25 [(0, .ref 0), (1, iV x1), (2, iV x2)] [] s
abbrev H_Mo_countLevels_62 (Q : Sto → Prop) (x1 : Int) (x2 : Int) (s : Sto) : Prop := Go SM M_Mo_countLevels (fV0 Q) 62 [(0, .ref 0), (1, iV x1), (2, iV x2)] [] s
abbrev H_Mo_countLevels_75 (Q : Sto → Prop) (x1 : Int) (x2 : Int) (x3 : Int) (x4 : Int) (x5 : Int) (s : Sto) : Prop := Go SM M_Mo_countLevels (fV0 Q) 75 [(0, .ref 0), (1, iV x1), (2, iV x2), (3, iV x3), (4, iV x4), (5, iV x5)] [] s
set_option maxRecDepth 20000 in
theorem b_Mo_countLevels_2 {Q : Sto → Prop} {x1 : Int} {s : Sto} (hT : (-2147483648 ≤ x1 ∧ x1 < 2147483648) ∧ ((64 ≤ x1) → H_Mo_countLevels_25 Q 1 0 s) ∧ ((x1 < 64) → (0 ≤ x1 ∧ x1 < 64) ∧ ∀ s4, s4 = up s 17 (Int.toNat x1) 0 → H_Mo_countLevels_2 Q (x1 + 1) s4)) : H_Mo_countLevels_2 Q x1 s := by
  refine g_iload_n (npc := 3) dX11_countLevels_2 rfl rfl rfl ?_
  refine g_bipush (npc := 5) (x := 64) dX11_countLevels_3 rfl (by decide) ?_
  obtain ⟨h1, hTt, hTf⟩ := hT
  refine g_icmp_ge (npc := 8) (tgt := 21) dX11_countLevels_5 rfl (by decide) ⟨h1, by decide, by decide⟩ (fun c2 => ?_) (fun c2 => ?_)
  · replace hT := hTt c2
    refine g_iconst (npc := 22) dX11_countLevels_21 rfl ?_
    refine g_istore_n (npc := 23) (l' := [(0, .ref 0), (1, iV 1)]) dX11_countLevels_22 rfl rfl (by decide) rfl ?_
    refine g_iconst (npc := 24) dX11_countLevels_23 rfl ?_
    refine g_istore_n (npc := 25) (l' := [(0, .ref 0), (1, iV 1), (2, iV 0)]) dX11_countLevels_24 rfl rfl (by decide) rfl ?_
    exact hT
  · replace hT := hTf (Int.not_le.mp c2)
    refine g_aload_n (npc := 9) dX11_countLevels_8 rfl rfl rfl ?_
    refine gf_Mo_61 (npc := 12) dX11_countLevels_9 rfl rfl ?_
    refine g_iload_n (npc := 13) dX11_countLevels_12 rfl rfl rfl ?_
    refine g_iconst (npc := 14) dX11_countLevels_13 rfl ?_
    obtain ⟨h3, hT⟩ := hT
    replace hT := hT _ rfl
    refine g_iast (npc := 15) dX11_countLevels_14 rfl arSM_17 h3  ?_
    refine g_iinc (npc := 18) (y := (x1 + 1)) (l' := [(0, .ref 0), (1, iV (x1 + 1))]) dX11_countLevels_15 rfl (by decide) rfl (by omega) rfl ?_
    refine g_goto (npc := 2) dX11_countLevels_18 (by decide) ?_
    exact hT
set_option maxRecDepth 20000 in
theorem b_Mo_countLevels_25 {Q : Sto → Prop} {x1 : Int} {x2 : Int} {s : Sto} (hT : ((-2147483648 ≤ x2 ∧ x2 < 2147483648) ∧ -2147483648 ≤ (s 0 0) ∧ (s 0 0) < 2147483648) ∧ (((s 0 0) ≤ x2) → H_Mo_countLevels_62 Q x1 0 s) ∧ ((x2 < (s 0 0)) → ((-2147483648 ≤ x2 ∧ x2 < 2147483648) ∧ -2147483648 ≤ (s 0 2) ∧ (s 0 2) < 2147483648) ∧ ((¬ x2 = (s 0 2)) → (0 ≤ x2 ∧ x2 < 8) ∧ H_Mo_countLevels_25 Q (x1 * (s 4 (Int.toNat x2))) (x2 + 1) s) ∧ ((x2 = (s 0 2)) → H_Mo_countLevels_25 Q (x1 * 1) (x2 + 1) s))) : H_Mo_countLevels_25 Q x1 x2 s := by
  refine g_iload_n (npc := 26) dX11_countLevels_25 rfl rfl rfl ?_
  refine g_aload_n (npc := 27) dX11_countLevels_26 rfl rfl rfl ?_
  refine gf_Mo_77 (npc := 30) dX11_countLevels_27 rfl rfl ?_
  obtain ⟨h5, hTt, hTf⟩ := hT
  refine g_icmp_ge (npc := 33) (tgt := 60) dX11_countLevels_30 rfl (by decide) h5 (fun c6 => ?_) (fun c6 => ?_)
  · replace hT := hTt c6
    refine g_iconst (npc := 61) dX11_countLevels_60 rfl ?_
    refine g_istore_n (npc := 62) (l' := [(0, .ref 0), (1, iV x1), (2, iV 0)]) dX11_countLevels_61 rfl rfl (by decide) rfl ?_
    exact hT
  · replace hT := hTf (Int.not_le.mp c6)
    refine g_iload_n (npc := 34) dX11_countLevels_33 rfl rfl rfl ?_
    refine g_iload_n (npc := 35) dX11_countLevels_34 rfl rfl rfl ?_
    refine g_aload_n (npc := 36) dX11_countLevels_35 rfl rfl rfl ?_
    refine gf_Mo_84 (npc := 39) dX11_countLevels_36 rfl rfl ?_
    obtain ⟨h7, hTt, hTf⟩ := hT
    refine g_icmp_ne (npc := 42) (tgt := 46) dX11_countLevels_39 rfl (by decide) h7 (fun c8 => ?_) (fun c8 => ?_)
    · replace hT := hTt c8
      refine g_aload_n (npc := 47) dX11_countLevels_46 rfl rfl rfl ?_
      refine gf_Mo_19 (npc := 50) dX11_countLevels_47 rfl rfl ?_
      refine g_iload_n (npc := 51) dX11_countLevels_50 rfl rfl rfl ?_
      obtain ⟨h9, hT⟩ := hT
      refine g_iald (npc := 52) dX11_countLevels_51 rfl arSM_4 h9 ?_
      refine g_imul (npc := 53) dX11_countLevels_52 rfl ?_
      refine g_istore_n (npc := 54) (l' := [(0, .ref 0), (1, iV (x1 * (s 4 (Int.toNat x2)))), (2, iV x2)]) dX11_countLevels_53 rfl rfl (by decide) rfl ?_
      refine g_iinc (npc := 57) (y := (x2 + 1)) (l' := [(0, .ref 0), (1, iV (x1 * (s 4 (Int.toNat x2)))), (2, iV (x2 + 1))]) dX11_countLevels_54 rfl (by decide) rfl (by omega) rfl ?_
      refine g_goto (npc := 25) dX11_countLevels_57 (by decide) ?_
      exact hT
    · replace hT := hTf (Decidable.not_not.mp c8)
      refine g_iconst (npc := 43) dX11_countLevels_42 rfl ?_
      refine g_goto (npc := 52) dX11_countLevels_43 (by decide) ?_
      refine g_imul (npc := 53) dX11_countLevels_52 rfl ?_
      refine g_istore_n (npc := 54) (l' := [(0, .ref 0), (1, iV (x1 * 1)), (2, iV x2)]) dX11_countLevels_53 rfl rfl (by decide) rfl ?_
      refine g_iinc (npc := 57) (y := (x2 + 1)) (l' := [(0, .ref 0), (1, iV (x1 * 1)), (2, iV (x2 + 1))]) dX11_countLevels_54 rfl (by decide) rfl (by omega) rfl ?_
      refine g_goto (npc := 25) dX11_countLevels_57 (by decide) ?_
      exact hT
set_option maxRecDepth 20000 in
theorem b_Mo_countLevels_62 {Q : Sto → Prop} {x1 : Int} {x2 : Int} {s : Sto} (hT : ((-2147483648 ≤ x2 ∧ x2 < 2147483648) ∧ -2147483648 ≤ x1 ∧ x1 < 2147483648) ∧ ((x1 ≤ x2) → ∀ s12, s12 = up s 0 21 1 → Q s12) ∧ ((x2 < x1) → H_Mo_countLevels_75 Q x1 x2 x2 0 0 s)) : H_Mo_countLevels_62 Q x1 x2 s := by
  refine g_iload_n (npc := 63) dX11_countLevels_62 rfl rfl rfl ?_
  refine g_iload_n (npc := 64) dX11_countLevels_63 rfl rfl rfl ?_
  obtain ⟨h10, hTt, hTf⟩ := hT
  refine g_icmp_ge (npc := 67) (tgt := 220) dX11_countLevels_64 rfl (by decide) h10 (fun c11 => ?_) (fun c11 => ?_)
  · replace hT := hTt c11
    refine g_aload_n (npc := 221) dX11_countLevels_220 rfl rfl rfl ?_
    refine g_iconst (npc := 222) dX11_countLevels_221 rfl ?_
    replace hT := hT _ rfl
    refine pf_Mo_93 (npc := 225) dX11_countLevels_222 rfl rfl ⟨by decide, by decide⟩ ?_
    exact g_ret dX11_countLevels_225 rfl ⟨rfl, hT⟩
  · replace hT := hTf (Int.not_le.mp c11)
    refine g_iload_n (npc := 68) dX11_countLevels_67 rfl rfl rfl ?_
    refine g_istore_n (npc := 69) (l' := [(0, .ref 0), (1, iV x1), (2, iV x2), (3, iV x2)]) dX11_countLevels_68 rfl rfl (by decide) rfl ?_
    refine g_iconst (npc := 70) dX11_countLevels_69 rfl ?_
    refine g_istore (npc := 72) (l' := [(0, .ref 0), (1, iV x1), (2, iV x2), (3, iV x2), (4, iV 0)]) dX11_countLevels_70 rfl (by decide) rfl ?_
    refine g_iconst (npc := 73) dX11_countLevels_72 rfl ?_
    refine g_istore (npc := 75) (l' := [(0, .ref 0), (1, iV x1), (2, iV x2), (3, iV x2), (4, iV 0), (5, iV 0)]) dX11_countLevels_73 rfl (by decide) rfl ?_
    exact hT
set_option maxRecDepth 20000 in
theorem b_Mo_countLevels_75 {Q : Sto → Prop} {x1 : Int} {x2 : Int} {x3 : Int} {x4 : Int} {x5 : Int} {s : Sto} (hT : (-2147483648 ≤ x5 ∧ x5 < 2147483648) ∧ ((8 ≤ x5) → ∃ Q15 : Int → Sto → Prop, K_Mo_inner s Q15 ∧ ∀ r18 s17, Q15 r18 s17 → ((-2147483648 ≤ x4 ∧ x4 < 2147483648) ∧ -2147483648 ≤ r18 ∧ r18 < 2147483648) ∧ ((x4 < r18) → H_Mo_countLevels_62 Q x1 (x2 + 1) s17) ∧ ((r18 ≤ x4) → ∃ Q22 : Sto → Prop, K_Mo_burn 12 0 s17 Q22 ∧ ∀ s24, Q22 s24 → ∃ Q27 : Int → Sto → Prop, K_Mo_inner s24 Q27 ∧ ∀ r30 s29, Q27 r30 s29 → (0 ≤ (x4 - r30) ∧ (x4 - r30) < 64) ∧ ∃ Q33 : Int → Sto → Prop, K_Mo_allBurn s29 Q33 ∧ ∀ r36 s35, Q33 r36 s35 → (-2147483648 ≤ r36 ∧ r36 < 2147483648) ∧ ((r36 = 0) → (0 ≤ (x4 - r30) ∧ (x4 - r30) < 64) ∧ ∀ s41, s41 = up s35 17 (Int.toNat (x4 - r30)) ((s29 17 (Int.toNat (x4 - r30))) + 0) → H_Mo_countLevels_62 Q x1 (x2 + 1) s41) ∧ ((¬ r36 = 0) → (0 ≤ (x4 - r30) ∧ (x4 - r30) < 64) ∧ ∀ s43, s43 = up s35 17 (Int.toNat (x4 - r30)) ((s29 17 (Int.toNat (x4 - r30))) + 1) → H_Mo_countLevels_62 Q x1 (x2 + 1) s43))) ∧ ((x5 < 8) → ∃ J44 : Prop, ∃ J46 : Int → Prop, (J44 → J46 0) ∧ (∀ v45, J46 v45 → ∃ J54 : Int → Prop, (∀ v53, J54 v53 → (0 ≤ x5 ∧ x5 < 8) ∧ ∀ s58, s58 = up s 12 (Int.toNat x5) v53 → ∃ J62 : Int → Prop, (∀ v61, J62 v61 → (0 ≤ x5 ∧ x5 < 8) ∧ H_Mo_countLevels_75 Q x1 x2 v61 (x4 + (s58 12 (Int.toNat x5))) (x5 + 1) s58) ∧ (-2147483648 ≤ v45 ∧ v45 < 2147483648) ∧ ((v45 = 0) → J62 x3) ∧ ((¬ v45 = 0) → (0 ≤ x5 ∧ x5 < 8) ∧ (((-2147483648 ≤ x3 ∧ x3 < 2147483648) ∧ -2147483648 ≤ (s58 4 (Int.toNat x5)) ∧ (s58 4 (Int.toNat x5)) < 2147483648) ∧ ¬ (s58 4 (Int.toNat x5)) = 0) ∧ J62 (Int.tdiv x3 (s58 4 (Int.toNat x5))))) ∧ (-2147483648 ≤ v45 ∧ v45 < 2147483648) ∧ ((v45 = 0) → J54 0) ∧ ((¬ v45 = 0) → (0 ≤ x5 ∧ x5 < 8) ∧ (((-2147483648 ≤ x3 ∧ x3 < 2147483648) ∧ -2147483648 ≤ (s 4 (Int.toNat x5)) ∧ (s 4 (Int.toNat x5)) < 2147483648) ∧ ¬ (s 4 (Int.toNat x5)) = 0) ∧ J54 (Int.tmod x3 (s 4 (Int.toNat x5))))) ∧ ((-2147483648 ≤ x5 ∧ x5 < 2147483648) ∧ -2147483648 ≤ (s 0 0) ∧ (s 0 0) < 2147483648) ∧ (((s 0 0) ≤ x5) → J44) ∧ ((x5 < (s 0 0)) → ((-2147483648 ≤ x5 ∧ x5 < 2147483648) ∧ -2147483648 ≤ (s 0 2) ∧ (s 0 2) < 2147483648) ∧ ((x5 = (s 0 2)) → J44) ∧ ((¬ x5 = (s 0 2)) → J46 1)))) : H_Mo_countLevels_75 Q x1 x2 x3 x4 x5 s := by
  refine g_iload (npc := 77) dX11_countLevels_75 rfl rfl ?_
  refine g_bipush (npc := 79) (x := 8) dX11_countLevels_77 rfl (by decide) ?_
  obtain ⟨h13, hTt, hTf⟩ := hT
  refine g_icmp_ge (npc := 82) (tgt := 169) dX11_countLevels_79 rfl (by decide) ⟨h13, by decide, by decide⟩ (fun c14 => ?_) (fun c14 => ?_)
  · replace hT := hTt c14
    refine g_iload (npc := 171) dX11_countLevels_169 rfl rfl ?_
    refine g_aload_n (npc := 172) dX11_countLevels_171 rfl rfl rfl ?_
    obtain ⟨Q15, h16, hT⟩ := hT
    refine iv_Mo_127 (npc := 175) dX11_countLevels_172 rfl rfl (Nat.le_of_ble_eq_true rfl) (by decide) h16 (fun r18 s17 e19 => ?_)
    replace hT := hT r18 s17 e19
    obtain ⟨h20, hTt, hTf⟩ := hT
    refine g_icmp_lt (npc := 178) (tgt := 214) dX11_countLevels_175 rfl (by decide) h20 (fun c21 => ?_) (fun c21 => ?_)
    · replace hT := hTt c21
      refine g_iinc (npc := 217) (y := (x2 + 1)) (l' := [(0, .ref 0), (1, iV x1), (2, iV (x2 + 1)), (3, iV x3), (4, iV x4), (5, iV x5)]) dX11_countLevels_214 rfl (by decide) rfl (by omega) rfl ?_
      refine g_goto (npc := 62) dX11_countLevels_217 (by decide) ?_
      refine Go.lsub [0, 1, 2] rfl ?_
      exact hT
    · replace hT := hTf (Int.not_lt.mp c21)
      refine g_aload_n (npc := 179) dX11_countLevels_178 rfl rfl rfl ?_
      refine g_aload_n (npc := 180) dX11_countLevels_179 rfl rfl rfl ?_
      refine gf_Mo_45 (npc := 183) dX11_countLevels_180 rfl rfl ?_
      refine g_iconst (npc := 184) dX11_countLevels_183 rfl ?_
      obtain ⟨Q22, h23, hT⟩ := hT
      refine iv_Mo_152 (npc := 187) dX11_countLevels_184 rfl rfl (Nat.le_of_ble_eq_true rfl) (by decide) h23 (fun s24 e26 => ?_)
      replace hT := hT s24 e26
      refine g_aload_n (npc := 188) dX11_countLevels_187 rfl rfl rfl ?_
      refine gf_Mo_61 (npc := 191) dX11_countLevels_188 rfl rfl ?_
      refine g_iload (npc := 193) dX11_countLevels_191 rfl rfl ?_
      refine g_aload_n (npc := 194) dX11_countLevels_193 rfl rfl rfl ?_
      obtain ⟨Q27, h28, hT⟩ := hT
      refine iv_Mo_127 (npc := 197) dX11_countLevels_194 rfl rfl (Nat.le_of_ble_eq_true rfl) (by decide) h28 (fun r30 s29 e31 => ?_)
      replace hT := hT r30 s29 e31
      refine g_isub (npc := 198) dX11_countLevels_197 rfl ?_
      refine g_dup2 (npc := 199) dX11_countLevels_198 rfl rfl rfl ?_
      obtain ⟨h32, hT⟩ := hT
      refine g_iald (npc := 200) dX11_countLevels_199 rfl arSM_17 h32 ?_
      refine g_aload_n (npc := 201) dX11_countLevels_200 rfl rfl rfl ?_
      obtain ⟨Q33, h34, hT⟩ := hT
      refine iv_Mo_156 (npc := 204) dX11_countLevels_201 rfl rfl (Nat.le_of_ble_eq_true rfl) (by decide) h34 (fun r36 s35 e37 => ?_)
      replace hT := hT r36 s35 e37
      obtain ⟨h38, hTt, hTf⟩ := hT
      refine g_if_eq (npc := 207) (tgt := 211) dX11_countLevels_204 rfl (by decide) h38 (fun c39 => ?_) (fun c39 => ?_)
      · replace hT := hTt c39
        refine g_iconst (npc := 212) dX11_countLevels_211 rfl ?_
        refine g_iadd (npc := 213) dX11_countLevels_212 rfl ?_
        obtain ⟨h40, hT⟩ := hT
        replace hT := hT _ rfl
        refine g_iast (npc := 214) dX11_countLevels_213 rfl arSM_17 h40  ?_
        refine g_iinc (npc := 217) (y := (x2 + 1)) (l' := [(0, .ref 0), (1, iV x1), (2, iV (x2 + 1)), (3, iV x3), (4, iV x4), (5, iV x5)]) dX11_countLevels_214 rfl (by decide) rfl (by omega) rfl ?_
        refine g_goto (npc := 62) dX11_countLevels_217 (by decide) ?_
        refine Go.lsub [0, 1, 2] rfl ?_
        exact hT
      · replace hT := hTf c39
        refine g_iconst (npc := 208) dX11_countLevels_207 rfl ?_
        refine g_goto (npc := 212) dX11_countLevels_208 (by decide) ?_
        refine g_iadd (npc := 213) dX11_countLevels_212 rfl ?_
        obtain ⟨h42, hT⟩ := hT
        replace hT := hT _ rfl
        refine g_iast (npc := 214) dX11_countLevels_213 rfl arSM_17 h42  ?_
        refine g_iinc (npc := 217) (y := (x2 + 1)) (l' := [(0, .ref 0), (1, iV x1), (2, iV (x2 + 1)), (3, iV x3), (4, iV x4), (5, iV x5)]) dX11_countLevels_214 rfl (by decide) rfl (by omega) rfl ?_
        refine g_goto (npc := 62) dX11_countLevels_217 (by decide) ?_
        refine Go.lsub [0, 1, 2] rfl ?_
        exact hT
  · replace hT := hTf (Int.not_le.mp c14)
    refine g_iload (npc := 84) dX11_countLevels_82 rfl rfl ?_
    refine g_aload_n (npc := 85) dX11_countLevels_84 rfl rfl rfl ?_
    refine gf_Mo_77 (npc := 88) dX11_countLevels_85 rfl rfl ?_
    obtain ⟨J44, hT⟩ := hT
    obtain ⟨J46, hT⟩ := hT
    obtain ⟨hj49, hT⟩ := hT
    obtain ⟨hj76, hT⟩ := hT
    have K77 : ∀ (v45 : Int), J46 v45 → Go SM M_Mo_countLevels (fV0 Q) 105 [(0, .ref 0), (1, iV x1), (2, iV x2), (3, iV x3), (4, iV x4), (5, iV x5)] [iV v45] s := by
      intro v45 q80
      replace hT := hj76 v45 q80
      refine g_istore (npc := 107) (l' := [(0, .ref 0), (1, iV x1), (2, iV x2), (3, iV x3), (4, iV x4), (5, iV x5), (6, iV v45)]) dX11_countLevels_105 rfl (by decide) rfl ?_
      refine g_aload_n (npc := 108) dX11_countLevels_107 rfl rfl rfl ?_
      refine gf_Mo_45 (npc := 111) dX11_countLevels_108 rfl rfl ?_
      refine g_iload (npc := 113) dX11_countLevels_111 rfl rfl ?_
      refine g_iload (npc := 115) dX11_countLevels_113 rfl rfl ?_
      obtain ⟨J54, hT⟩ := hT
      obtain ⟨hj71, hT⟩ := hT
      have K72 : ∀ (v53 : Int), J54 v53 → Go SM M_Mo_countLevels (fV0 Q) 131 [(0, .ref 0), (1, iV x1), (2, iV x2), (3, iV x3), (4, iV x4), (5, iV x5), (6, iV v45)] [iV v53, iV x5, .ref 12] s := by
        intro v53 q75
        replace hT := hj71 v53 q75
        obtain ⟨h57, hT⟩ := hT
        replace hT := hT _ rfl
        refine g_iast (npc := 132) dX11_countLevels_131 rfl arSM_12 h57  ?_
        refine g_iload (npc := 134) dX11_countLevels_132 rfl rfl ?_
        obtain ⟨J62, hT⟩ := hT
        obtain ⟨hj66, hT⟩ := hT
        have K67 : ∀ (v61 : Int), J62 v61 → Go SM M_Mo_countLevels (fV0 Q) 150 [(0, .ref 0), (1, iV x1), (2, iV x2), (4, iV x4), (5, iV x5)] [iV v61] (up s 12 (Int.toNat x5) v53) := by
          intro v61 q70
          replace hT := hj66 v61 q70
          refine g_istore_n (npc := 151) (l' := [(0, .ref 0), (1, iV x1), (2, iV x2), (3, iV v61), (4, iV x4), (5, iV x5)]) dX11_countLevels_150 rfl rfl (by decide) rfl ?_
          refine g_iload (npc := 153) dX11_countLevels_151 rfl rfl ?_
          refine g_aload_n (npc := 154) dX11_countLevels_153 rfl rfl rfl ?_
          refine gf_Mo_45 (npc := 157) dX11_countLevels_154 rfl rfl ?_
          refine g_iload (npc := 159) dX11_countLevels_157 rfl rfl ?_
          obtain ⟨h65, hT⟩ := hT
          refine g_iald (npc := 160) dX11_countLevels_159 rfl arSM_12 h65 ?_
          refine g_iadd (npc := 161) dX11_countLevels_160 rfl ?_
          refine g_istore (npc := 163) (l' := [(0, .ref 0), (1, iV x1), (2, iV x2), (3, iV v61), (4, iV (x4 + ((up s 12 (Int.toNat x5) v53) 12 (Int.toNat x5)))), (5, iV x5)]) dX11_countLevels_161 rfl (by decide) rfl ?_
          refine g_iinc (npc := 166) (y := (x5 + 1)) (l' := [(0, .ref 0), (1, iV x1), (2, iV x2), (3, iV v61), (4, iV (x4 + ((up s 12 (Int.toNat x5) v53) 12 (Int.toNat x5)))), (5, iV (x5 + 1))]) dX11_countLevels_163 rfl (by decide) rfl (by omega) rfl ?_
          refine g_goto (npc := 75) dX11_countLevels_166 (by decide) ?_
          exact hT
        obtain ⟨h63, hTt, hTf⟩ := hT
        refine g_if_eq (npc := 137) (tgt := 149) dX11_countLevels_134 rfl (by decide) h63 (fun c64 => ?_) (fun c64 => ?_)
        · replace hT := hTt c64
          refine g_iload_n (npc := 150) dX11_countLevels_149 rfl rfl rfl ?_
          refine Go.lsub [0, 1, 2, 4, 5] rfl ?_
          exact K67 _ hT
        · replace hT := hTf c64
          refine g_iload_n (npc := 138) dX11_countLevels_137 rfl rfl rfl ?_
          refine g_aload_n (npc := 139) dX11_countLevels_138 rfl rfl rfl ?_
          refine gf_Mo_19 (npc := 142) dX11_countLevels_139 rfl rfl ?_
          refine g_iload (npc := 144) dX11_countLevels_142 rfl rfl ?_
          obtain ⟨h68, hT⟩ := hT
          refine g_iald (npc := 145) dX11_countLevels_144 rfl arSM_4 h68 ?_
          obtain ⟨h69, hT⟩ := hT
          refine g_idiv (npc := 146) dX11_countLevels_145 rfl h69.1 h69.2 ?_
          refine g_goto (npc := 150) dX11_countLevels_146 (by decide) ?_
          refine Go.lsub [0, 1, 2, 4, 5] rfl ?_
          exact K67 _ hT
      obtain ⟨h55, hTt, hTf⟩ := hT
      refine g_if_eq (npc := 118) (tgt := 130) dX11_countLevels_115 rfl (by decide) h55 (fun c56 => ?_) (fun c56 => ?_)
      · replace hT := hTt c56
        refine g_iconst (npc := 131) dX11_countLevels_130 rfl ?_
        exact K72 _ hT
      · replace hT := hTf c56
        refine g_iload_n (npc := 119) dX11_countLevels_118 rfl rfl rfl ?_
        refine g_aload_n (npc := 120) dX11_countLevels_119 rfl rfl rfl ?_
        refine gf_Mo_19 (npc := 123) dX11_countLevels_120 rfl rfl ?_
        refine g_iload (npc := 125) dX11_countLevels_123 rfl rfl ?_
        obtain ⟨h73, hT⟩ := hT
        refine g_iald (npc := 126) dX11_countLevels_125 rfl arSM_4 h73 ?_
        obtain ⟨h74, hT⟩ := hT
        refine g_irem (npc := 127) dX11_countLevels_126 rfl h74.1 h74.2 ?_
        refine g_goto (npc := 131) dX11_countLevels_127 (by decide) ?_
        exact K72 _ hT
    have K50 : J44 → Go SM M_Mo_countLevels (fV0 Q) 104 [(0, .ref 0), (1, iV x1), (2, iV x2), (3, iV x3), (4, iV x4), (5, iV x5)] [] s := by
      intro  q81
      replace hT := hj49  q81
      refine g_iconst (npc := 105) dX11_countLevels_104 rfl ?_
      exact K77 _ hT
    obtain ⟨h47, hTt, hTf⟩ := hT
    refine g_icmp_ge (npc := 91) (tgt := 104) dX11_countLevels_88 rfl (by decide) h47 (fun c48 => ?_) (fun c48 => ?_)
    · replace hT := hTt c48
      exact K50  hT
    · replace hT := hTf (Int.not_le.mp c48)
      refine g_iload (npc := 93) dX11_countLevels_91 rfl rfl ?_
      refine g_aload_n (npc := 94) dX11_countLevels_93 rfl rfl rfl ?_
      refine gf_Mo_84 (npc := 97) dX11_countLevels_94 rfl rfl ?_
      obtain ⟨h78, hTt, hTf⟩ := hT
      refine g_icmp_eq (npc := 100) (tgt := 104) dX11_countLevels_97 rfl (by decide) h78 (fun c79 => ?_) (fun c79 => ?_)
      · replace hT := hTt c79
        exact K50  hT
      · replace hT := hTf c79
        refine g_iconst (npc := 101) dX11_countLevels_100 rfl ?_
        refine g_goto (npc := 105) dX11_countLevels_101 (by decide) ?_
        exact K77 _ hT
set_option maxRecDepth 20000 in
theorem e_Mo_countLevels {s : Sto} {Q : Sto → Prop} (hT : H_Mo_countLevels_2 Q 0 s) : K_Mo_countLevels s Q := by
  refine Sp.body (by decide) (Nat.le_of_ble_eq_true rfl) ?_
  show Go SM M_Mo_countLevels (fV0 Q) 0 [(0, .ref 0)] [] s
  refine g_iconst (npc := 1) dX11_countLevels_0 rfl ?_
  refine g_istore_n (npc := 2) (l' := [(0, .ref 0), (1, iV 0)]) dX11_countLevels_1 rfl rfl (by decide) rfl ?_
  exact hT
set_option maxRecDepth 20000 in
theorem e_Mo_levelCount {x1 : Int} {s : Sto} {Q : Int → Sto → Prop} (hT : (-2147483648 ≤ x1 ∧ x1 < 2147483648) ∧ ((0 ≤ x1) → ∃ Q3 : Int → Sto → Prop, K_Mo_isConnected s Q3 ∧ ∀ r6 s5, Q3 r6 s5 → (-2147483648 ≤ r6 ∧ r6 < 2147483648) ∧ ((¬ r6 = 0) → ∃ J12 : Sto → Prop, (∀ s11, J12 s11 → (-2147483648 ≤ x1 ∧ x1 < 2147483648) ∧ ((64 ≤ x1) → Q 0 s11) ∧ ((x1 < 64) → (0 ≤ x1 ∧ x1 < 64) ∧ Q (s11 17 (Int.toNat x1)) s11)) ∧ (-2147483648 ≤ (s5 0 21) ∧ (s5 0 21) < 2147483648) ∧ ((¬ (s5 0 21) = 0) → J12 s5) ∧ (((s5 0 21) = 0) → ∃ Q20 : Sto → Prop, K_Mo_countLevels s5 Q20 ∧ ∀ s22, Q20 s22 → J12 s22)) ∧ ((r6 = 0) → Q (-10003) s5)) ∧ ((x1 < 0) → Q (-10002) s)) : K_Mo_levelCount x1 s Q := by
  refine Sp.body (by decide) (Nat.le_of_ble_eq_true rfl) ?_
  show Go SM M_Mo_levelCount (fI Q) 0 [(0, .ref 0), (1, iV x1)] [] s
  refine g_iload_n (npc := 1) dX11_levelCount_0 rfl rfl rfl ?_
  obtain ⟨h1, hTt, hTf⟩ := hT
  refine g_if_ge (npc := 4) (tgt := 8) dX11_levelCount_1 rfl (by decide) h1 (fun c2 => ?_) (fun c2 => ?_)
  · replace hT := hTt c2
    refine g_aload_n (npc := 9) dX11_levelCount_8 rfl rfl rfl ?_
    obtain ⟨Q3, h4, hT⟩ := hT
    refine iv_Mo_119 (npc := 12) dX11_levelCount_9 rfl rfl (Nat.le_of_ble_eq_true rfl) (by decide) h4 (fun r6 s5 e7 => ?_)
    replace hT := hT r6 s5 e7
    obtain ⟨h8, hTt, hTf⟩ := hT
    refine g_if_ne (npc := 15) (tgt := 19) dX11_levelCount_12 rfl (by decide) h8 (fun c9 => ?_) (fun c9 => ?_)
    · replace hT := hTt c9
      refine g_aload_n (npc := 20) dX11_levelCount_19 rfl rfl rfl ?_
      refine gf_Mo_93 (npc := 23) dX11_levelCount_20 rfl rfl ?_
      obtain ⟨J12, hT⟩ := hT
      obtain ⟨hj18, hT⟩ := hT
      have K19 : ∀ (s11 : Sto), J12 s11 → Go SM M_Mo_levelCount (fI Q) 30 [(0, .ref 0), (1, iV x1)] [] s11 := by
        intro s11 q25
        replace hT := hj18 s11 q25
        refine g_iload_n (npc := 31) dX11_levelCount_30 rfl rfl rfl ?_
        refine g_bipush (npc := 33) (x := 64) dX11_levelCount_31 rfl (by decide) ?_
        obtain ⟨h15, hTt, hTf⟩ := hT
        refine g_icmp_ge (npc := 36) (tgt := 45) dX11_levelCount_33 rfl (by decide) ⟨h15, by decide, by decide⟩ (fun c16 => ?_) (fun c16 => ?_)
        · replace hT := hTt c16
          refine g_iconst (npc := 46) dX11_levelCount_45 rfl ?_
          exact g_iret dX11_levelCount_46 rfl rfl ⟨_, rfl, hT⟩
        · replace hT := hTf (Int.not_le.mp c16)
          refine g_aload_n (npc := 37) dX11_levelCount_36 rfl rfl rfl ?_
          refine gf_Mo_61 (npc := 40) dX11_levelCount_37 rfl rfl ?_
          refine g_iload_n (npc := 41) dX11_levelCount_40 rfl rfl rfl ?_
          obtain ⟨h17, hT⟩ := hT
          refine g_iald (npc := 42) dX11_levelCount_41 rfl arSM_17 h17 ?_
          refine g_goto (npc := 46) dX11_levelCount_42 (by decide) ?_
          exact g_iret dX11_levelCount_46 rfl rfl ⟨_, rfl, hT⟩
      obtain ⟨h13, hTt, hTf⟩ := hT
      refine g_if_ne (npc := 26) (tgt := 30) dX11_levelCount_23 rfl (by decide) h13 (fun c14 => ?_) (fun c14 => ?_)
      · replace hT := hTt c14
        exact K19 _ hT
      · replace hT := hTf (Decidable.not_not.mp c14)
        refine g_aload_n (npc := 27) dX11_levelCount_26 rfl rfl rfl ?_
        obtain ⟨Q20, h21, hT⟩ := hT
        refine iv_Mo_220 (npc := 30) dX11_levelCount_27 rfl rfl (Nat.le_of_ble_eq_true rfl) (by decide) h21 (fun s22 e24 => ?_)
        replace hT := hT s22 e24
        exact K19 _ hT
    · replace hT := hTf (Decidable.not_not.mp c9)
      refine g_sipush (npc := 18) (x := (-10003)) dX11_levelCount_15 rfl (by decide) ?_
      exact g_iret dX11_levelCount_18 rfl rfl ⟨_, rfl, hT⟩
  · replace hT := hTf (Int.not_le.mp c2)
    refine g_sipush (npc := 7) (x := (-10002)) dX11_levelCount_4 rfl (by decide) ?_
    exact g_iret dX11_levelCount_7 rfl rfl ⟨_, rfl, hT⟩
abbrev H_Mo_follow_15 (Q : Int → Sto → Prop) (x1 : Int) (x2 : Int) (x3 : Int) (x4 : Int) (x5 : Int) (s : Sto) : Prop := Go SM M_Mo_follow (fI Q) 15 [(0, .ref 0), (1, iV x1), (2, iV x2), (3, iV x3), (4, iV x4), (5, iV x5)] [] s
abbrev H_Mo_follow_39 (Q : Int → Sto → Prop) (x1 : Int) (x2 : Int) (x3 : Int) (x4 : Int) (x5 : Int) (s : Sto) : Prop := Go SM M_Mo_follow (fI Q) 39 [(0, .ref 0), (1, iV x1), (2, iV x2), (3, iV x3), (4, iV x4), (5, iV x5)] [] s
abbrev H_Mo_follow_59 (Q : Int → Sto → Prop) (x1 : Int) (x2 : Int) (x3 : Int) (x4 : Int) (x6 : Int) (s : Sto) : Prop := Go SM M_Mo_follow (fI Q) 59 [(0, .ref 0), (1, iV x1), (2, iV x2), (3, iV x3), (4, iV x4), (6, iV x6)] [] s
set_option maxRecDepth 20000 in
theorem b_Mo_follow_15 {Q : Int → Sto → Prop} {x1 : Int} {x2 : Int} {x3 : Int} {x4 : Int} {x5 : Int} {s : Sto} (hT : (-2147483648 ≤ x5 ∧ x5 < 2147483648) ∧ ((8 ≤ x5) → H_Mo_follow_39 Q x1 x2 x3 x4 1 s) ∧ ((x5 < 8) → (0 ≤ x5 ∧ x5 < 8) ∧ ∀ s4, s4 = up s 18 (Int.toNat x5) 0 → H_Mo_follow_15 Q x1 x2 x3 x4 (x5 + 1) s4)) : H_Mo_follow_15 Q x1 x2 x3 x4 x5 s := by
  refine g_iload (npc := 17) dX11_follow_15 rfl rfl ?_
  refine g_bipush (npc := 19) (x := 8) dX11_follow_17 rfl (by decide) ?_
  obtain ⟨h1, hTt, hTf⟩ := hT
  refine g_icmp_ge (npc := 22) (tgt := 36) dX11_follow_19 rfl (by decide) ⟨h1, by decide, by decide⟩ (fun c2 => ?_) (fun c2 => ?_)
  · replace hT := hTt c2
    refine g_iconst (npc := 37) dX11_follow_36 rfl ?_
    refine g_istore (npc := 39) (l' := [(0, .ref 0), (1, iV x1), (2, iV x2), (3, iV x3), (4, iV x4), (5, iV 1)]) dX11_follow_37 rfl (by decide) rfl ?_
    exact hT
  · replace hT := hTf (Int.not_le.mp c2)
    refine g_aload_n (npc := 23) dX11_follow_22 rfl rfl rfl ?_
    refine gf_Mo_64 (npc := 26) dX11_follow_23 rfl rfl ?_
    refine g_iload (npc := 28) dX11_follow_26 rfl rfl ?_
    refine g_iconst (npc := 29) dX11_follow_28 rfl ?_
    obtain ⟨h3, hT⟩ := hT
    replace hT := hT _ rfl
    refine g_iast (npc := 30) dX11_follow_29 rfl arSM_18 h3  ?_
    refine g_iinc (npc := 33) (y := (x5 + 1)) (l' := [(0, .ref 0), (1, iV x1), (2, iV x2), (3, iV x3), (4, iV x4), (5, iV (x5 + 1))]) dX11_follow_30 rfl (by decide) rfl (by omega) rfl ?_
    refine g_goto (npc := 15) dX11_follow_33 (by decide) ?_
    exact hT
set_option maxRecDepth 20000 in
theorem b_Mo_follow_39 {Q : Int → Sto → Prop} {x1 : Int} {x2 : Int} {x3 : Int} {x4 : Int} {x5 : Int} {s : Sto} (hT : (-2147483648 ≤ x5 ∧ x5 < 2147483648) ∧ ((x5 = 0) → Q x4 s) ∧ ((¬ x5 = 0) → ((-2147483648 ≤ x2 ∧ x2 < 2147483648) ∧ -2147483648 ≤ ((ishl 1 (s 0 0)) - 1) ∧ ((ishl 1 (s 0 0)) - 1) < 2147483648) ∧ ((x2 = ((ishl 1 (s 0 0)) - 1)) → Q x4 s) ∧ ((¬ x2 = ((ishl 1 (s 0 0)) - 1)) → H_Mo_follow_59 Q x1 x2 x3 x4 0 s))) : H_Mo_follow_39 Q x1 x2 x3 x4 x5 s := by
  refine g_iload (npc := 41) dX11_follow_39 rfl rfl ?_
  obtain ⟨h5, hTt, hTf⟩ := hT
  refine g_if_eq (npc := 44) (tgt := 275) dX11_follow_41 rfl (by decide) h5 (fun c6 => ?_) (fun c6 => ?_)
  · replace hT := hTt c6
    refine g_iload (npc := 277) dX11_follow_275 rfl rfl ?_
    exact g_iret dX11_follow_277 rfl rfl ⟨_, rfl, hT⟩
  · replace hT := hTf c6
    refine g_iload_n (npc := 45) dX11_follow_44 rfl rfl rfl ?_
    refine g_iconst (npc := 46) dX11_follow_45 rfl ?_
    refine g_aload_n (npc := 47) dX11_follow_46 rfl rfl rfl ?_
    refine gf_Mo_77 (npc := 50) dX11_follow_47 rfl rfl ?_
    refine g_ishl (npc := 51) dX11_follow_50 rfl ?_
    refine g_iconst (npc := 52) dX11_follow_51 rfl ?_
    refine g_isub (npc := 53) dX11_follow_52 rfl ?_
    obtain ⟨h7, hTt, hTf⟩ := hT
    refine g_icmp_eq (npc := 56) (tgt := 275) dX11_follow_53 rfl (by decide) h7 (fun c8 => ?_) (fun c8 => ?_)
    · replace hT := hTt c8
      refine g_iload (npc := 277) dX11_follow_275 rfl rfl ?_
      exact g_iret dX11_follow_277 rfl rfl ⟨_, rfl, hT⟩
    · replace hT := hTf c8
      refine g_iconst (npc := 57) dX11_follow_56 rfl ?_
      refine g_istore (npc := 59) (l' := [(0, .ref 0), (1, iV x1), (2, iV x2), (3, iV x3), (4, iV x4), (5, iV x5), (6, iV 0)]) dX11_follow_57 rfl (by decide) rfl ?_
      refine Go.lsub [0, 1, 2, 3, 4, 6] rfl ?_
      exact hT
set_option maxRecDepth 20000 in
theorem b_Mo_follow_59 {Q : Int → Sto → Prop} {x1 : Int} {x2 : Int} {x3 : Int} {x4 : Int} {x6 : Int} {s : Sto} (hT : ∃ J19 : Prop, (J19 → ∃ J23 : Int → Prop, (∀ v22, J23 v22 → (-2147483648 ≤ v22 ∧ v22 < 2147483648) ∧ ((v22 = 0) → H_Mo_follow_39 Q x1 x2 x3 x4 v22 s) ∧ ((¬ v22 = 0) → (0 ≤ x6 ∧ x6 < 20) ∧ ∃ J32 : Int → Prop, (∀ v31, J32 v31 → (0 ≤ v31 ∧ v31 < 8) ∧ (0 ≤ v31 ∧ v31 < 8) ∧ ∀ s37, s37 = up s 18 (Int.toNat v31) ((s 18 (Int.toNat v31)) + 1) → ∃ J46 : Int → Prop, (∀ v45, J46 v45 → ∃ J51 : Int → Prop, (∀ v50, J51 v50 → (-2147483648 ≤ v45 ∧ v45 < 2147483648) ∧ ((v45 = 0) → H_Mo_follow_39 Q x1 (ior x2 v50) (ior x3 (ishl 1 x6)) (ior x4 0) v22 s37) ∧ ((¬ v45 = 0) → H_Mo_follow_39 Q x1 (ior x2 v50) (ior x3 (ishl 1 x6)) (ior x4 (ishl 1 x6)) v22 s37)) ∧ (-2147483648 ≤ v45 ∧ v45 < 2147483648) ∧ ((v45 = 0) → J51 0) ∧ ((¬ v45 = 0) → J51 (ishl 1 v31))) ∧ (-2147483648 ≤ x1 ∧ x1 < 2147483648) ∧ ((x1 < 0) → (0 ≤ v31 ∧ v31 < 8) ∧ (0 ≤ v31 ∧ v31 < 8) ∧ (0 ≤ v31 ∧ v31 < 8) ∧ ((-2147483648 ≤ (s37 18 (Int.toNat v31)) ∧ (s37 18 (Int.toNat v31)) < 2147483648) ∧ -2147483648 ≤ (((s37 4 (Int.toNat v31)) - 1) - (s37 5 (Int.toNat v31))) ∧ (((s37 4 (Int.toNat v31)) - 1) - (s37 5 (Int.toNat v31))) < 2147483648) ∧ (((s37 18 (Int.toNat v31)) ≤ (((s37 4 (Int.toNat v31)) - 1) - (s37 5 (Int.toNat v31)))) → J46 0) ∧ (((((s37 4 (Int.toNat v31)) - 1) - (s37 5 (Int.toNat v31))) < (s37 18 (Int.toNat v31))) → J46 1)) ∧ ((0 ≤ x1) → (-2147483648 ≤ (iand (ishr x1 x6) 1) ∧ (iand (ishr x1 x6) 1) < 2147483648) ∧ ((¬ (iand (ishr x1 x6) 1) = 1) → J46 0) ∧ (((iand (ishr x1 x6) 1) = 1) → J46 1))) ∧ (-2147483648 ≤ (iand (ishr x2 (s 1 (Int.toNat x6))) 1) ∧ (iand (ishr x2 (s 1 (Int.toNat x6))) 1) < 2147483648) ∧ ((¬ (iand (ishr x2 (s 1 (Int.toNat x6))) 1) = 1) → (0 ≤ x6 ∧ x6 < 20) ∧ J32 (s 1 (Int.toNat x6))) ∧ (((iand (ishr x2 (s 1 (Int.toNat x6))) 1) = 1) → (0 ≤ x6 ∧ x6 < 20) ∧ J32 (s 2 (Int.toNat x6))))) ∧ ((-2147483648 ≤ x6 ∧ x6 < 2147483648) ∧ -2147483648 ≤ (s 0 1) ∧ (s 0 1) < 2147483648) ∧ (((s 0 1) ≤ x6) → J23 0) ∧ ((x6 < (s 0 1)) → J23 1)) ∧ ((-2147483648 ≤ x6 ∧ x6 < 2147483648) ∧ -2147483648 ≤ (s 0 1) ∧ (s 0 1) < 2147483648) ∧ (((s 0 1) ≤ x6) → J19) ∧ ((x6 < (s 0 1)) → (-2147483648 ≤ (iand (ishr x3 x6) 1) ∧ (iand (ishr x3 x6) 1) < 2147483648) ∧ (((iand (ishr x3 x6) 1) = 1) → H_Mo_follow_59 Q x1 x2 x3 x4 (x6 + 1) s) ∧ ((¬ (iand (ishr x3 x6) 1) = 1) → (0 ≤ x6 ∧ x6 < 20) ∧ (0 ≤ x6 ∧ x6 < 20) ∧ ((-2147483648 ≤ (iand (ishr x2 (s 1 (Int.toNat x6))) 1) ∧ (iand (ishr x2 (s 1 (Int.toNat x6))) 1) < 2147483648) ∧ -2147483648 ≤ (iand (ishr x2 (s 2 (Int.toNat x6))) 1) ∧ (iand (ishr x2 (s 2 (Int.toNat x6))) 1) < 2147483648) ∧ ((¬ (iand (ishr x2 (s 1 (Int.toNat x6))) 1) = (iand (ishr x2 (s 2 (Int.toNat x6))) 1)) → J19) ∧ (((iand (ishr x2 (s 1 (Int.toNat x6))) 1) = (iand (ishr x2 (s 2 (Int.toNat x6))) 1)) → H_Mo_follow_59 Q x1 x2 x3 x4 (x6 + 1) s)))) : H_Mo_follow_59 Q x1 x2 x3 x4 x6 s := by
  refine g_iload (npc := 61) dX11_follow_59 rfl rfl ?_
  refine g_aload_n (npc := 62) dX11_follow_61 rfl rfl rfl ?_
  refine gf_Mo_81 (npc := 65) dX11_follow_62 rfl rfl ?_
  obtain ⟨J19, hT⟩ := hT
  obtain ⟨hj77, hT⟩ := hT
  have K78 : J19 → Go SM M_Mo_follow (fI Q) 109 [(0, .ref 0), (1, iV x1), (2, iV x2), (3, iV x3), (4, iV x4), (6, iV x6)] [] s := by
    intro  q85
    replace hT := hj77  q85
    refine g_iload (npc := 111) dX11_follow_109 rfl rfl ?_
    refine g_aload_n (npc := 112) dX11_follow_111 rfl rfl rfl ?_
    refine gf_Mo_81 (npc := 115) dX11_follow_112 rfl rfl ?_
    obtain ⟨J23, hT⟩ := hT
    obtain ⟨hj74, hT⟩ := hT
    have K75 : ∀ (v22 : Int), J23 v22 → Go SM M_Mo_follow (fI Q) 123 [(0, .ref 0), (1, iV x1), (2, iV x2), (3, iV x3), (4, iV x4), (6, iV x6)] [iV v22] s := by
      intro v22 q76
      replace hT := hj74 v22 q76
      refine g_istore (npc := 125) (l' := [(0, .ref 0), (1, iV x1), (2, iV x2), (3, iV x3), (4, iV x4), (5, iV v22), (6, iV x6)]) dX11_follow_123 rfl (by decide) rfl ?_
      refine g_iload (npc := 127) dX11_follow_125 rfl rfl ?_
      obtain ⟨h26, hTt, hTf⟩ := hT
      refine g_if_eq (npc := 130) (tgt := 272) dX11_follow_127 rfl (by decide) h26 (fun c27 => ?_) (fun c27 => ?_)
      · replace hT := hTt c27
        refine g_goto (npc := 39) dX11_follow_272 (by decide) ?_
        refine Go.lsub [0, 1, 2, 3, 4, 5] rfl ?_
        exact hT
      · replace hT := hTf c27
        refine g_iload_n (npc := 131) dX11_follow_130 rfl rfl rfl ?_
        refine g_aload_n (npc := 132) dX11_follow_131 rfl rfl rfl ?_
        refine gf_Mo_7 (npc := 135) dX11_follow_132 rfl rfl ?_
        refine g_iload (npc := 137) dX11_follow_135 rfl rfl ?_
        obtain ⟨h28, hT⟩ := hT
        refine g_iald (npc := 138) dX11_follow_137 rfl arSM_1 h28 ?_
        refine g_ishr (npc := 139) dX11_follow_138 rfl ?_
        refine g_iconst (npc := 140) dX11_follow_139 rfl ?_
        refine g_iand (npc := 141) dX11_follow_140 rfl ?_
        refine g_iconst (npc := 142) dX11_follow_141 rfl ?_
        obtain ⟨J32, hT⟩ := hT
        obtain ⟨hj69, hT⟩ := hT
        have K70 : ∀ (v31 : Int), J32 v31 → Go SM M_Mo_follow (fI Q) 162 [(0, .ref 0), (1, iV x1), (2, iV x2), (3, iV x3), (4, iV x4), (5, iV v22), (6, iV x6)] [iV v31] s := by
          intro v31 q73
          replace hT := hj69 v31 q73
          refine g_istore (npc := 164) (l' := [(0, .ref 0), (1, iV x1), (2, iV x2), (3, iV x3), (4, iV x4), (5, iV v22), (6, iV x6), (7, iV v31)]) dX11_follow_162 rfl (by decide) rfl ?_
          refine g_iload_n (npc := 165) dX11_follow_164 rfl rfl rfl ?_
          refine g_iconst (npc := 166) dX11_follow_165 rfl ?_
          refine g_iload (npc := 168) dX11_follow_166 rfl rfl ?_
          refine g_ishl (npc := 169) dX11_follow_168 rfl ?_
          refine g_ior (npc := 170) dX11_follow_169 rfl ?_
          refine g_istore_n (npc := 171) (l' := [(0, .ref 0), (1, iV x1), (2, iV x2), (3, iV (ior x3 (ishl 1 x6))), (4, iV x4), (5, iV v22), (6, iV x6), (7, iV v31)]) dX11_follow_170 rfl rfl (by decide) rfl ?_
          refine g_aload_n (npc := 172) dX11_follow_171 rfl rfl rfl ?_
          refine gf_Mo_64 (npc := 175) dX11_follow_172 rfl rfl ?_
          refine g_iload (npc := 177) dX11_follow_175 rfl rfl ?_
          refine g_dup2 (npc := 178) dX11_follow_177 rfl rfl rfl ?_
          obtain ⟨h35, hT⟩ := hT
          refine g_iald (npc := 179) dX11_follow_178 rfl arSM_18 h35 ?_
          refine g_iconst (npc := 180) dX11_follow_179 rfl ?_
          refine g_iadd (npc := 181) dX11_follow_180 rfl ?_
          obtain ⟨h36, hT⟩ := hT
          replace hT := hT _ rfl
          refine g_iast (npc := 182) dX11_follow_181 rfl arSM_18 h36  ?_
          refine g_iload_n (npc := 183) dX11_follow_182 rfl rfl rfl ?_
          obtain ⟨J46, hT⟩ := hT
          obtain ⟨hj59, hT⟩ := hT
          have K60 : ∀ (v45 : Int), J46 v45 → Go SM M_Mo_follow (fI Q) 236 [(0, .ref 0), (1, iV x1), (2, iV x2), (3, iV (ior x3 (ishl 1 x6))), (4, iV x4), (5, iV v22), (6, iV x6), (7, iV v31)] [iV v45] (up s 18 (Int.toNat v31) ((s 18 (Int.toNat v31)) + 1)) := by
            intro v45 q68
            replace hT := hj59 v45 q68
            refine g_istore (npc := 238) (l' := [(0, .ref 0), (1, iV x1), (2, iV x2), (3, iV (ior x3 (ishl 1 x6))), (4, iV x4), (5, iV v22), (6, iV x6), (7, iV v31), (8, iV v45)]) dX11_follow_236 rfl (by decide) rfl ?_
            refine g_iload_n (npc := 239) dX11_follow_238 rfl rfl rfl ?_
            refine g_iload (npc := 241) dX11_follow_239 rfl rfl ?_
            obtain ⟨J51, hT⟩ := hT
            obtain ⟨hj56, hT⟩ := hT
            have K57 : ∀ (v50 : Int), J51 v50 → Go SM M_Mo_follow (fI Q) 252 [(0, .ref 0), (1, iV x1), (3, iV (ior x3 (ishl 1 x6))), (4, iV x4), (5, iV v22), (6, iV x6), (8, iV v45)] [iV v50, iV x2] (up s 18 (Int.toNat v31) ((s 18 (Int.toNat v31)) + 1)) := by
              intro v50 q58
              replace hT := hj56 v50 q58
              refine g_ior (npc := 253) dX11_follow_252 rfl ?_
              refine g_istore_n (npc := 254) (l' := [(0, .ref 0), (1, iV x1), (2, iV (ior x2 v50)), (3, iV (ior x3 (ishl 1 x6))), (4, iV x4), (5, iV v22), (6, iV x6), (8, iV v45)]) dX11_follow_253 rfl rfl (by decide) rfl ?_
              refine g_iload (npc := 256) dX11_follow_254 rfl rfl ?_
              refine g_iload (npc := 258) dX11_follow_256 rfl rfl ?_
              obtain ⟨h54, hTt, hTf⟩ := hT
              refine g_if_eq (npc := 261) (tgt := 268) dX11_follow_258 rfl (by decide) h54 (fun c55 => ?_) (fun c55 => ?_)
              · replace hT := hTt c55
                refine g_iconst (npc := 269) dX11_follow_268 rfl ?_
                refine g_ior (npc := 270) dX11_follow_269 rfl ?_
                refine g_istore (npc := 272) (l' := [(0, .ref 0), (1, iV x1), (2, iV (ior x2 v50)), (3, iV (ior x3 (ishl 1 x6))), (4, iV (ior x4 0)), (5, iV v22), (6, iV x6), (8, iV v45)]) dX11_follow_270 rfl (by decide) rfl ?_
                refine g_goto (npc := 39) dX11_follow_272 (by decide) ?_
                refine Go.lsub [0, 1, 2, 3, 4, 5] rfl ?_
                exact hT
              · replace hT := hTf c55
                refine g_iconst (npc := 262) dX11_follow_261 rfl ?_
                refine g_iload (npc := 264) dX11_follow_262 rfl rfl ?_
                refine g_ishl (npc := 265) dX11_follow_264 rfl ?_
                refine g_goto (npc := 269) dX11_follow_265 (by decide) ?_
                refine g_ior (npc := 270) dX11_follow_269 rfl ?_
                refine g_istore (npc := 272) (l' := [(0, .ref 0), (1, iV x1), (2, iV (ior x2 v50)), (3, iV (ior x3 (ishl 1 x6))), (4, iV (ior x4 (ishl 1 x6))), (5, iV v22), (6, iV x6), (8, iV v45)]) dX11_follow_270 rfl (by decide) rfl ?_
                refine g_goto (npc := 39) dX11_follow_272 (by decide) ?_
                refine Go.lsub [0, 1, 2, 3, 4, 5] rfl ?_
                exact hT
            obtain ⟨h52, hTt, hTf⟩ := hT
            refine g_if_eq (npc := 244) (tgt := 251) dX11_follow_241 rfl (by decide) h52 (fun c53 => ?_) (fun c53 => ?_)
            · replace hT := hTt c53
              refine g_iconst (npc := 252) dX11_follow_251 rfl ?_
              refine Go.lsub [0, 1, 3, 4, 5, 6, 8] rfl ?_
              exact K57 _ hT
            · replace hT := hTf c53
              refine g_iconst (npc := 245) dX11_follow_244 rfl ?_
              refine g_iload (npc := 247) dX11_follow_245 rfl rfl ?_
              refine g_ishl (npc := 248) dX11_follow_247 rfl ?_
              refine g_goto (npc := 252) dX11_follow_248 (by decide) ?_
              refine Go.lsub [0, 1, 3, 4, 5, 6, 8] rfl ?_
              exact K57 _ hT
          obtain ⟨h47, hTt, hTf⟩ := hT
          refine g_if_lt (npc := 186) (tgt := 204) dX11_follow_183 rfl (by decide) h47 (fun c48 => ?_) (fun c48 => ?_)
          · replace hT := hTt c48
            refine g_aload_n (npc := 205) dX11_follow_204 rfl rfl rfl ?_
            refine gf_Mo_64 (npc := 208) dX11_follow_205 rfl rfl ?_
            refine g_iload (npc := 210) dX11_follow_208 rfl rfl ?_
            obtain ⟨h61, hT⟩ := hT
            refine g_iald (npc := 211) dX11_follow_210 rfl arSM_18 h61 ?_
            refine g_aload_n (npc := 212) dX11_follow_211 rfl rfl rfl ?_
            refine gf_Mo_19 (npc := 215) dX11_follow_212 rfl rfl ?_
            refine g_iload (npc := 217) dX11_follow_215 rfl rfl ?_
            obtain ⟨h62, hT⟩ := hT
            refine g_iald (npc := 218) dX11_follow_217 rfl arSM_4 h62 ?_
            refine g_iconst (npc := 219) dX11_follow_218 rfl ?_
            refine g_isub (npc := 220) dX11_follow_219 rfl ?_
            refine g_aload_n (npc := 221) dX11_follow_220 rfl rfl rfl ?_
            refine gf_Mo_22 (npc := 224) dX11_follow_221 rfl rfl ?_
            refine g_iload (npc := 226) dX11_follow_224 rfl rfl ?_
            obtain ⟨h63, hT⟩ := hT
            refine g_iald (npc := 227) dX11_follow_226 rfl arSM_5 h63 ?_
            refine g_isub (npc := 228) dX11_follow_227 rfl ?_
            obtain ⟨h64, hTt, hTf⟩ := hT
            refine g_icmp_le (npc := 231) (tgt := 235) dX11_follow_228 rfl (by decide) h64 (fun c65 => ?_) (fun c65 => ?_)
            · replace hT := hTt c65
              refine g_iconst (npc := 236) dX11_follow_235 rfl ?_
              exact K60 _ hT
            · replace hT := hTf (Int.not_le.mp c65)
              refine g_iconst (npc := 232) dX11_follow_231 rfl ?_
              refine g_goto (npc := 236) dX11_follow_232 (by decide) ?_
              exact K60 _ hT
          · replace hT := hTf (Int.not_lt.mp c48)
            refine g_iload_n (npc := 187) dX11_follow_186 rfl rfl rfl ?_
            refine g_iload (npc := 189) dX11_follow_187 rfl rfl ?_
            refine g_ishr (npc := 190) dX11_follow_189 rfl ?_
            refine g_iconst (npc := 191) dX11_follow_190 rfl ?_
            refine g_iand (npc := 192) dX11_follow_191 rfl ?_
            refine g_iconst (npc := 193) dX11_follow_192 rfl ?_
            obtain ⟨h66, hTt, hTf⟩ := hT
            refine g_icmp_ne (npc := 196) (tgt := 200) dX11_follow_193 rfl (by decide) ⟨h66, by decide, by decide⟩ (fun c67 => ?_) (fun c67 => ?_)
            · replace hT := hTt c67
              refine g_iconst (npc := 201) dX11_follow_200 rfl ?_
              refine g_goto (npc := 236) dX11_follow_201 (by decide) ?_
              exact K60 _ hT
            · replace hT := hTf (Decidable.not_not.mp c67)
              refine g_iconst (npc := 197) dX11_follow_196 rfl ?_
              refine g_goto (npc := 236) dX11_follow_197 (by decide) ?_
              exact K60 _ hT
        obtain ⟨h33, hTt, hTf⟩ := hT
        refine g_icmp_ne (npc := 145) (tgt := 155) dX11_follow_142 rfl (by decide) ⟨h33, by decide, by decide⟩ (fun c34 => ?_) (fun c34 => ?_)
        · replace hT := hTt c34
          refine g_aload_n (npc := 156) dX11_follow_155 rfl rfl rfl ?_
          refine gf_Mo_7 (npc := 159) dX11_follow_156 rfl rfl ?_
          refine g_iload (npc := 161) dX11_follow_159 rfl rfl ?_
          obtain ⟨h71, hT⟩ := hT
          refine g_iald (npc := 162) dX11_follow_161 rfl arSM_1 h71 ?_
          exact K70 _ hT
        · replace hT := hTf (Decidable.not_not.mp c34)
          refine g_aload_n (npc := 146) dX11_follow_145 rfl rfl rfl ?_
          refine gf_Mo_13 (npc := 149) dX11_follow_146 rfl rfl ?_
          refine g_iload (npc := 151) dX11_follow_149 rfl rfl ?_
          obtain ⟨h72, hT⟩ := hT
          refine g_iald (npc := 152) dX11_follow_151 rfl arSM_2 h72 ?_
          refine g_goto (npc := 162) dX11_follow_152 (by decide) ?_
          exact K70 _ hT
    obtain ⟨h24, hTt, hTf⟩ := hT
    refine g_icmp_ge (npc := 118) (tgt := 122) dX11_follow_115 rfl (by decide) h24 (fun c25 => ?_) (fun c25 => ?_)
    · replace hT := hTt c25
      refine g_iconst (npc := 123) dX11_follow_122 rfl ?_
      exact K75 _ hT
    · replace hT := hTf (Int.not_le.mp c25)
      refine g_iconst (npc := 119) dX11_follow_118 rfl ?_
      refine g_goto (npc := 123) dX11_follow_119 (by decide) ?_
      exact K75 _ hT
  obtain ⟨h20, hTt, hTf⟩ := hT
  refine g_icmp_ge (npc := 68) (tgt := 109) dX11_follow_65 rfl (by decide) h20 (fun c21 => ?_) (fun c21 => ?_)
  · replace hT := hTt c21
    exact K78  hT
  · replace hT := hTf (Int.not_le.mp c21)
    refine g_iload_n (npc := 69) dX11_follow_68 rfl rfl rfl ?_
    refine g_iload (npc := 71) dX11_follow_69 rfl rfl ?_
    refine g_ishr (npc := 72) dX11_follow_71 rfl ?_
    refine g_iconst (npc := 73) dX11_follow_72 rfl ?_
    refine g_iand (npc := 74) dX11_follow_73 rfl ?_
    refine g_iconst (npc := 75) dX11_follow_74 rfl ?_
    obtain ⟨h79, hTt, hTf⟩ := hT
    refine g_icmp_eq (npc := 78) (tgt := 103) dX11_follow_75 rfl (by decide) ⟨h79, by decide, by decide⟩ (fun c80 => ?_) (fun c80 => ?_)
    · replace hT := hTt c80
      refine g_iinc (npc := 106) (y := (x6 + 1)) (l' := [(0, .ref 0), (1, iV x1), (2, iV x2), (3, iV x3), (4, iV x4), (6, iV (x6 + 1))]) dX11_follow_103 rfl (by decide) rfl (by omega) rfl ?_
      refine g_goto (npc := 59) dX11_follow_106 (by decide) ?_
      exact hT
    · replace hT := hTf c80
      refine g_iload_n (npc := 79) dX11_follow_78 rfl rfl rfl ?_
      refine g_aload_n (npc := 80) dX11_follow_79 rfl rfl rfl ?_
      refine gf_Mo_7 (npc := 83) dX11_follow_80 rfl rfl ?_
      refine g_iload (npc := 85) dX11_follow_83 rfl rfl ?_
      obtain ⟨h81, hT⟩ := hT
      refine g_iald (npc := 86) dX11_follow_85 rfl arSM_1 h81 ?_
      refine g_ishr (npc := 87) dX11_follow_86 rfl ?_
      refine g_iconst (npc := 88) dX11_follow_87 rfl ?_
      refine g_iand (npc := 89) dX11_follow_88 rfl ?_
      refine g_iload_n (npc := 90) dX11_follow_89 rfl rfl rfl ?_
      refine g_aload_n (npc := 91) dX11_follow_90 rfl rfl rfl ?_
      refine gf_Mo_13 (npc := 94) dX11_follow_91 rfl rfl ?_
      refine g_iload (npc := 96) dX11_follow_94 rfl rfl ?_
      obtain ⟨h82, hT⟩ := hT
      refine g_iald (npc := 97) dX11_follow_96 rfl arSM_2 h82 ?_
      refine g_ishr (npc := 98) dX11_follow_97 rfl ?_
      refine g_iconst (npc := 99) dX11_follow_98 rfl ?_
      refine g_iand (npc := 100) dX11_follow_99 rfl ?_
      obtain ⟨h83, hTt, hTf⟩ := hT
      refine g_icmp_ne (npc := 103) (tgt := 109) dX11_follow_100 rfl (by decide) h83 (fun c84 => ?_) (fun c84 => ?_)
      · replace hT := hTt c84
        exact K78  hT
      · replace hT := hTf (Decidable.not_not.mp c84)
        refine g_iinc (npc := 106) (y := (x6 + 1)) (l' := [(0, .ref 0), (1, iV x1), (2, iV x2), (3, iV x3), (4, iV x4), (6, iV (x6 + 1))]) dX11_follow_103 rfl (by decide) rfl (by omega) rfl ?_
        refine g_goto (npc := 59) dX11_follow_106 (by decide) ?_
        exact hT
set_option maxRecDepth 20000 in
theorem e_Mo_follow {x1 : Int} {s : Sto} {Q : Int → Sto → Prop} (hT : H_Mo_follow_15 Q x1 (ishl 1 (s 0 2)) 0 0 0 s) : K_Mo_follow x1 s Q := by
  refine Sp.body (by decide) (Nat.le_of_ble_eq_true rfl) ?_
  show Go SM M_Mo_follow (fI Q) 0 [(0, .ref 0), (1, iV x1)] [] s
  refine g_iconst (npc := 1) dX11_follow_0 rfl ?_
  refine g_aload_n (npc := 2) dX11_follow_1 rfl rfl rfl ?_
  refine gf_Mo_84 (npc := 5) dX11_follow_2 rfl rfl ?_
  refine g_ishl (npc := 6) dX11_follow_5 rfl ?_
  refine g_istore_n (npc := 7) (l' := [(0, .ref 0), (1, iV x1), (2, iV (ishl 1 (s 0 2)))]) dX11_follow_6 rfl rfl (by decide) rfl ?_
  refine g_iconst (npc := 8) dX11_follow_7 rfl ?_
  refine g_istore_n (npc := 9) (l' := [(0, .ref 0), (1, iV x1), (2, iV (ishl 1 (s 0 2))), (3, iV 0)]) dX11_follow_8 rfl rfl (by decide) rfl ?_
  refine g_iconst (npc := 10) dX11_follow_9 rfl ?_
  refine g_istore (npc := 12) (l' := [(0, .ref 0), (1, iV x1), (2, iV (ishl 1 (s 0 2))), (3, iV 0), (4, iV 0)]) dX11_follow_10 rfl (by decide) rfl ?_
  refine g_iconst (npc := 13) dX11_follow_12 rfl ?_
  refine g_istore (npc := 15) (l' := [(0, .ref 0), (1, iV x1), (2, iV (ishl 1 (s 0 2))), (3, iV 0), (4, iV 0), (5, iV 0)]) dX11_follow_13 rfl (by decide) rfl ?_
  exact hT
set_option maxRecDepth 20000 in
theorem e_Mo_tree {s : Sto} {Q : Int → Sto → Prop} (hT : ∃ Q1 : Int → Sto → Prop, K_Mo_isRecurrent 5 s Q1 ∧ ∀ r4 s3, Q1 r4 s3 → (-2147483648 ≤ r4 ∧ r4 < 2147483648) ∧ ((r4 = 0) → Q (-10004) s3) ∧ ((¬ r4 = 0) → ∃ Q8 : Int → Sto → Prop, K_Mo_follow (-1) s3 Q8 ∧ ∀ r11 s10, Q8 r11 s10 → Q r11 s10)) : K_Mo_tree s Q := by
  refine Sp.body (by decide) (Nat.le_of_ble_eq_true rfl) ?_
  show Go SM M_Mo_tree (fI Q) 0 [(0, .ref 0)] [] s
  refine g_aload_n (npc := 1) dX11_tree_0 rfl rfl rfl ?_
  refine g_aload_n (npc := 2) dX11_tree_1 rfl rfl rfl ?_
  refine gf_Mo_22 (npc := 5) dX11_tree_2 rfl rfl ?_
  obtain ⟨Q1, h2, hT⟩ := hT
  refine iv_Mo_177 (npc := 8) dX11_tree_5 rfl rfl (Nat.le_of_ble_eq_true rfl) (by decide) h2 (fun r4 s3 e5 => ?_)
  replace hT := hT r4 s3 e5
  obtain ⟨h6, hTt, hTf⟩ := hT
  refine g_if_eq (npc := 11) (tgt := 19) dX11_tree_8 rfl (by decide) h6 (fun c7 => ?_) (fun c7 => ?_)
  · replace hT := hTt c7
    refine g_sipush (npc := 22) (x := (-10004)) dX11_tree_19 rfl (by decide) ?_
    exact g_iret dX11_tree_22 rfl rfl ⟨_, rfl, hT⟩
  · replace hT := hTf c7
    refine g_aload_n (npc := 12) dX11_tree_11 rfl rfl rfl ?_
    refine g_iconst (npc := 13) dX11_tree_12 rfl ?_
    obtain ⟨Q8, h9, hT⟩ := hT
    refine iv_Mo_223 (npc := 16) dX11_tree_13 rfl rfl (Nat.le_of_ble_eq_true rfl) (by decide) h9 (fun r11 s10 e12 => ?_)
    replace hT := hT r11 s10 e12
    refine g_goto (npc := 22) dX11_tree_16 (by decide) ?_
    exact g_iret dX11_tree_22 rfl rfl ⟨_, rfl, hT⟩
abbrev H_Mo_bits_4 (Q : Int → Sto → Prop) (x1 : Int) (x2 : Int) (s : Sto) : Prop := Go SM M_Mo_bits (fI Q) 4 [(1, iV x1), (2, iV x2)] [] s
set_option maxRecDepth 20000 in
theorem b_Mo_bits_4 {Q : Int → Sto → Prop} {x1 : Int} {x2 : Int} {s : Sto} (hT : (-2147483648 ≤ x2 ∧ x2 < 2147483648) ∧ ((x2 = 0) → Q x1 s) ∧ ((¬ x2 = 0) → H_Mo_bits_4 Q (x1 + 1) (iand x2 (x2 - 1)) s)) : H_Mo_bits_4 Q x1 x2 s := by
  refine g_iload_n (npc := 5) dX11_bits_4 rfl rfl rfl ?_
  obtain ⟨h1, hTt, hTf⟩ := hT
  refine g_if_eq (npc := 8) (tgt := 20) dX11_bits_5 rfl (by decide) h1 (fun c2 => ?_) (fun c2 => ?_)
  · replace hT := hTt c2
    refine g_iload_n (npc := 21) dX11_bits_20 rfl rfl rfl ?_
    exact g_iret dX11_bits_21 rfl rfl ⟨_, rfl, hT⟩
  · replace hT := hTf c2
    refine g_iinc (npc := 11) (y := (x1 + 1)) (l' := [(1, iV (x1 + 1)), (2, iV x2)]) dX11_bits_8 rfl (by decide) rfl (by omega) rfl ?_
    refine g_iload_n (npc := 12) dX11_bits_11 rfl rfl rfl ?_
    refine g_iload_n (npc := 13) dX11_bits_12 rfl rfl rfl ?_
    refine g_iconst (npc := 14) dX11_bits_13 rfl ?_
    refine g_isub (npc := 15) dX11_bits_14 rfl ?_
    refine g_iand (npc := 16) dX11_bits_15 rfl ?_
    refine g_istore_n (npc := 17) (l' := [(1, iV (x1 + 1)), (2, iV (iand x2 (x2 - 1)))]) dX11_bits_16 rfl rfl (by decide) rfl ?_
    refine g_goto (npc := 4) dX11_bits_17 (by decide) ?_
    exact hT
set_option maxRecDepth 20000 in
theorem e_Mo_bits {x0 : Int} {s : Sto} {Q : Int → Sto → Prop} (hT : H_Mo_bits_4 Q 0 x0 s) : K_Mo_bits x0 s Q := by
  refine Sp.body (by decide) (Nat.le_of_ble_eq_true rfl) ?_
  show Go SM M_Mo_bits (fI Q) 0 [(0, iV x0)] [] s
  refine g_iconst (npc := 1) dX11_bits_0 rfl ?_
  refine g_istore_n (npc := 2) (l' := [(0, iV x0), (1, iV 0)]) dX11_bits_1 rfl rfl (by decide) rfl ?_
  refine g_iload_n (npc := 3) dX11_bits_2 rfl rfl rfl ?_
  refine g_istore_n (npc := 4) (l' := [(0, iV x0), (1, iV 0), (2, iV x0)]) dX11_bits_3 rfl rfl (by decide) rfl ?_
  refine Go.lsub [1, 2] rfl ?_
  exact hT
abbrev H_Mo_isTree_38 (Q : Int → Sto → Prop) (x1 : Int) (x2 : Int) (x3 : Int) (s : Sto) : Prop := Go SM M_Mo_isTree (fI Q) 38 [(0, .ref 0), (1, iV x1), (2, iV x2), (3, iV x3)] [] s
abbrev H_Mo_isTree_47 (Q : Int → Sto → Prop) (x1 : Int) (x2 : Int) (x3 : Int) (x4 : Int) (s : Sto) : Prop := Go SM M_Mo_isTree (fI Q) 47 [(0, .ref 0), (1, iV x1), (2, iV x2), (3, iV x3), (4, iV x4)] [] s
set_option maxRecDepth 20000 in
theorem b_Mo_isTree_38 {Q : Int → Sto → Prop} {x1 : Int} {x2 : Int} {x3 : Int} {s : Sto} (hT : (-2147483648 ≤ x3 ∧ x3 < 2147483648) ∧ ((x3 = 0) → ((-2147483648 ≤ x2 ∧ x2 < 2147483648) ∧ -2147483648 ≤ ((ishl 1 (s 0 0)) - 1) ∧ ((ishl 1 (s 0 0)) - 1) < 2147483648) ∧ ((¬ x2 = ((ishl 1 (s 0 0)) - 1)) → Q 0 s) ∧ ((x2 = ((ishl 1 (s 0 0)) - 1)) → Q 1 s)) ∧ ((¬ x3 = 0) → H_Mo_isTree_47 Q x1 x2 0 0 s)) : H_Mo_isTree_38 Q x1 x2 x3 s := by
  refine g_iload_n (npc := 39) dX11_isTree_38 rfl rfl rfl ?_
  obtain ⟨h12, hTt, hTf⟩ := hT
  refine g_if_eq (npc := 42) (tgt := 150) dX11_isTree_39 rfl (by decide) h12 (fun c13 => ?_) (fun c13 => ?_)
  · replace hT := hTt c13
    refine g_iload_n (npc := 151) dX11_isTree_150 rfl rfl rfl ?_
    refine g_iconst (npc := 152) dX11_isTree_151 rfl ?_
    refine g_aload_n (npc := 153) dX11_isTree_152 rfl rfl rfl ?_
    refine gf_Mo_77 (npc := 156) dX11_isTree_153 rfl rfl ?_
    refine g_ishl (npc := 157) dX11_isTree_156 rfl ?_
    refine g_iconst (npc := 158) dX11_isTree_157 rfl ?_
    refine g_isub (npc := 159) dX11_isTree_158 rfl ?_
    obtain ⟨h14, hTt, hTf⟩ := hT
    refine g_icmp_ne (npc := 162) (tgt := 166) dX11_isTree_159 rfl (by decide) h14 (fun c15 => ?_) (fun c15 => ?_)
    · replace hT := hTt c15
      refine g_iconst (npc := 167) dX11_isTree_166 rfl ?_
      exact g_iret dX11_isTree_167 rfl (by decide) ⟨_, rfl, hT⟩
    · replace hT := hTf (Decidable.not_not.mp c15)
      refine g_iconst (npc := 163) dX11_isTree_162 rfl ?_
      refine g_goto (npc := 167) dX11_isTree_163 (by decide) ?_
      exact g_iret dX11_isTree_167 rfl (by decide) ⟨_, rfl, hT⟩
  · replace hT := hTf c13
    refine g_iconst (npc := 43) dX11_isTree_42 rfl ?_
    refine g_istore_n (npc := 44) (l' := [(0, .ref 0), (1, iV x1), (2, iV x2), (3, iV 0)]) dX11_isTree_43 rfl rfl (by decide) rfl ?_
    refine g_iconst (npc := 45) dX11_isTree_44 rfl ?_
    refine g_istore (npc := 47) (l' := [(0, .ref 0), (1, iV x1), (2, iV x2), (3, iV 0), (4, iV 0)]) dX11_isTree_45 rfl (by decide) rfl ?_
    exact hT
set_option maxRecDepth 20000 in
theorem b_Mo_isTree_47 {Q : Int → Sto → Prop} {x1 : Int} {x2 : Int} {x3 : Int} {x4 : Int} {s : Sto} (hT : ((-2147483648 ≤ x4 ∧ x4 < 2147483648) ∧ -2147483648 ≤ (s 0 1) ∧ (s 0 1) < 2147483648) ∧ (((s 0 1) ≤ x4) → H_Mo_isTree_38 Q x1 x2 x3 s) ∧ ((x4 < (s 0 1)) → (0 ≤ x4 ∧ x4 < 20) ∧ ∃ J20 : Int → Prop, (∀ v19, J20 v19 → (0 ≤ x4 ∧ x4 < 20) ∧ ∃ J25 : Int → Prop, (∀ v24, J25 v24 → (-2147483648 ≤ (iand (ishr x1 x4) 1) ∧ (iand (ishr x1 x4) 1) < 2147483648) ∧ ((¬ (iand (ishr x1 x4) 1) = 1) → H_Mo_isTree_47 Q x1 x2 x3 (x4 + 1) s) ∧ (((iand (ishr x1 x4) 1) = 1) → ((-2147483648 ≤ v19 ∧ v19 < 2147483648) ∧ -2147483648 ≤ v24 ∧ v24 < 2147483648) ∧ ((v19 = v24) → H_Mo_isTree_47 Q x1 x2 x3 (x4 + 1) s) ∧ ((¬ v19 = v24) → (0 ≤ x4 ∧ x4 < 20) ∧ (0 ≤ x4 ∧ x4 < 20) ∧ H_Mo_isTree_47 Q x1 (ior x2 (ior (ishl 1 (s 1 (Int.toNat x4))) (ishl 1 (s 2 (Int.toNat x4))))) 1 (x4 + 1) s))) ∧ (-2147483648 ≤ (iand (ishr x2 (s 2 (Int.toNat x4))) 1) ∧ (iand (ishr x2 (s 2 (Int.toNat x4))) 1) < 2147483648) ∧ ((¬ (iand (ishr x2 (s 2 (Int.toNat x4))) 1) = 1) → J25 0) ∧ (((iand (ishr x2 (s 2 (Int.toNat x4))) 1) = 1) → J25 1)) ∧ (-2147483648 ≤ (iand (ishr x2 (s 1 (Int.toNat x4))) 1) ∧ (iand (ishr x2 (s 1 (Int.toNat x4))) 1) < 2147483648) ∧ ((¬ (iand (ishr x2 (s 1 (Int.toNat x4))) 1) = 1) → J20 0) ∧ (((iand (ishr x2 (s 1 (Int.toNat x4))) 1) = 1) → J20 1))) : H_Mo_isTree_47 Q x1 x2 x3 x4 s := by
  refine g_iload (npc := 49) dX11_isTree_47 rfl rfl ?_
  refine g_aload_n (npc := 50) dX11_isTree_49 rfl rfl rfl ?_
  refine gf_Mo_81 (npc := 53) dX11_isTree_50 rfl rfl ?_
  obtain ⟨h16, hTt, hTf⟩ := hT
  refine g_icmp_ge (npc := 56) (tgt := 147) dX11_isTree_53 rfl (by decide) h16 (fun c17 => ?_) (fun c17 => ?_)
  · replace hT := hTt c17
    refine g_goto (npc := 38) dX11_isTree_147 (by decide) ?_
    refine Go.lsub [0, 1, 2, 3] rfl ?_
    exact hT
  · replace hT := hTf (Int.not_le.mp c17)
    refine g_iload_n (npc := 57) dX11_isTree_56 rfl rfl rfl ?_
    refine g_aload_n (npc := 58) dX11_isTree_57 rfl rfl rfl ?_
    refine gf_Mo_7 (npc := 61) dX11_isTree_58 rfl rfl ?_
    refine g_iload (npc := 63) dX11_isTree_61 rfl rfl ?_
    obtain ⟨h18, hT⟩ := hT
    refine g_iald (npc := 64) dX11_isTree_63 rfl arSM_1 h18 ?_
    refine g_ishr (npc := 65) dX11_isTree_64 rfl ?_
    refine g_iconst (npc := 66) dX11_isTree_65 rfl ?_
    refine g_iand (npc := 67) dX11_isTree_66 rfl ?_
    refine g_iconst (npc := 68) dX11_isTree_67 rfl ?_
    obtain ⟨J20, hT⟩ := hT
    obtain ⟨hj37, hT⟩ := hT
    have K38 : ∀ (v19 : Int), J20 v19 → Go SM M_Mo_isTree (fI Q) 76 [(0, .ref 0), (1, iV x1), (2, iV x2), (3, iV x3), (4, iV x4)] [iV v19] s := by
      intro v19 q39
      replace hT := hj37 v19 q39
      refine g_istore (npc := 78) (l' := [(0, .ref 0), (1, iV x1), (2, iV x2), (3, iV x3), (4, iV x4), (5, iV v19)]) dX11_isTree_76 rfl (by decide) rfl ?_
      refine g_iload_n (npc := 79) dX11_isTree_78 rfl rfl rfl ?_
      refine g_aload_n (npc := 80) dX11_isTree_79 rfl rfl rfl ?_
      refine gf_Mo_13 (npc := 83) dX11_isTree_80 rfl rfl ?_
      refine g_iload (npc := 85) dX11_isTree_83 rfl rfl ?_
      obtain ⟨h23, hT⟩ := hT
      refine g_iald (npc := 86) dX11_isTree_85 rfl arSM_2 h23 ?_
      refine g_ishr (npc := 87) dX11_isTree_86 rfl ?_
      refine g_iconst (npc := 88) dX11_isTree_87 rfl ?_
      refine g_iand (npc := 89) dX11_isTree_88 rfl ?_
      refine g_iconst (npc := 90) dX11_isTree_89 rfl ?_
      obtain ⟨J25, hT⟩ := hT
      obtain ⟨hj34, hT⟩ := hT
      have K35 : ∀ (v24 : Int), J25 v24 → Go SM M_Mo_isTree (fI Q) 98 [(0, .ref 0), (1, iV x1), (2, iV x2), (3, iV x3), (4, iV x4), (5, iV v19)] [iV v24] s := by
        intro v24 q36
        replace hT := hj34 v24 q36
        refine g_istore (npc := 100) (l' := [(0, .ref 0), (1, iV x1), (2, iV x2), (3, iV x3), (4, iV x4), (5, iV v19), (6, iV v24)]) dX11_isTree_98 rfl (by decide) rfl ?_
        refine g_iload_n (npc := 101) dX11_isTree_100 rfl rfl rfl ?_
        refine g_iload (npc := 103) dX11_isTree_101 rfl rfl ?_
        refine g_ishr (npc := 104) dX11_isTree_103 rfl ?_
        refine g_iconst (npc := 105) dX11_isTree_104 rfl ?_
        refine g_iand (npc := 106) dX11_isTree_105 rfl ?_
        refine g_iconst (npc := 107) dX11_isTree_106 rfl ?_
        obtain ⟨h28, hTt, hTf⟩ := hT
        refine g_icmp_ne (npc := 110) (tgt := 141) dX11_isTree_107 rfl (by decide) ⟨h28, by decide, by decide⟩ (fun c29 => ?_) (fun c29 => ?_)
        · replace hT := hTt c29
          refine g_iinc (npc := 144) (y := (x4 + 1)) (l' := [(0, .ref 0), (1, iV x1), (2, iV x2), (3, iV x3), (4, iV (x4 + 1)), (5, iV v19), (6, iV v24)]) dX11_isTree_141 rfl (by decide) rfl (by omega) rfl ?_
          refine g_goto (npc := 47) dX11_isTree_144 (by decide) ?_
          refine Go.lsub [0, 1, 2, 3, 4] rfl ?_
          exact hT
        · replace hT := hTf (Decidable.not_not.mp c29)
          refine g_iload (npc := 112) dX11_isTree_110 rfl rfl ?_
          refine g_iload (npc := 114) dX11_isTree_112 rfl rfl ?_
          obtain ⟨h30, hTt, hTf⟩ := hT
          refine g_icmp_eq (npc := 117) (tgt := 141) dX11_isTree_114 rfl (by decide) h30 (fun c31 => ?_) (fun c31 => ?_)
          · replace hT := hTt c31
            refine g_iinc (npc := 144) (y := (x4 + 1)) (l' := [(0, .ref 0), (1, iV x1), (2, iV x2), (3, iV x3), (4, iV (x4 + 1)), (5, iV v19), (6, iV v24)]) dX11_isTree_141 rfl (by decide) rfl (by omega) rfl ?_
            refine g_goto (npc := 47) dX11_isTree_144 (by decide) ?_
            refine Go.lsub [0, 1, 2, 3, 4] rfl ?_
            exact hT
          · replace hT := hTf c31
            refine g_iload_n (npc := 118) dX11_isTree_117 rfl rfl rfl ?_
            refine g_iconst (npc := 119) dX11_isTree_118 rfl ?_
            refine g_aload_n (npc := 120) dX11_isTree_119 rfl rfl rfl ?_
            refine gf_Mo_7 (npc := 123) dX11_isTree_120 rfl rfl ?_
            refine g_iload (npc := 125) dX11_isTree_123 rfl rfl ?_
            obtain ⟨h32, hT⟩ := hT
            refine g_iald (npc := 126) dX11_isTree_125 rfl arSM_1 h32 ?_
            refine g_ishl (npc := 127) dX11_isTree_126 rfl ?_
            refine g_iconst (npc := 128) dX11_isTree_127 rfl ?_
            refine g_aload_n (npc := 129) dX11_isTree_128 rfl rfl rfl ?_
            refine gf_Mo_13 (npc := 132) dX11_isTree_129 rfl rfl ?_
            refine g_iload (npc := 134) dX11_isTree_132 rfl rfl ?_
            obtain ⟨h33, hT⟩ := hT
            refine g_iald (npc := 135) dX11_isTree_134 rfl arSM_2 h33 ?_
            refine g_ishl (npc := 136) dX11_isTree_135 rfl ?_
            refine g_ior (npc := 137) dX11_isTree_136 rfl ?_
            refine g_ior (npc := 138) dX11_isTree_137 rfl ?_
            refine g_istore_n (npc := 139) (l' := [(0, .ref 0), (1, iV x1), (2, iV (ior x2 (ior (ishl 1 (s 1 (Int.toNat x4))) (ishl 1 (s 2 (Int.toNat x4)))))), (3, iV x3), (4, iV x4), (5, iV v19), (6, iV v24)]) dX11_isTree_138 rfl rfl (by decide) rfl ?_
            refine g_iconst (npc := 140) dX11_isTree_139 rfl ?_
            refine g_istore_n (npc := 141) (l' := [(0, .ref 0), (1, iV x1), (2, iV (ior x2 (ior (ishl 1 (s 1 (Int.toNat x4))) (ishl 1 (s 2 (Int.toNat x4)))))), (3, iV 1), (4, iV x4), (5, iV v19), (6, iV v24)]) dX11_isTree_140 rfl rfl (by decide) rfl ?_
            refine g_iinc (npc := 144) (y := (x4 + 1)) (l' := [(0, .ref 0), (1, iV x1), (2, iV (ior x2 (ior (ishl 1 (s 1 (Int.toNat x4))) (ishl 1 (s 2 (Int.toNat x4)))))), (3, iV 1), (4, iV (x4 + 1)), (5, iV v19), (6, iV v24)]) dX11_isTree_141 rfl (by decide) rfl (by omega) rfl ?_
            refine g_goto (npc := 47) dX11_isTree_144 (by decide) ?_
            refine Go.lsub [0, 1, 2, 3, 4] rfl ?_
            exact hT
      obtain ⟨h26, hTt, hTf⟩ := hT
      refine g_icmp_ne (npc := 93) (tgt := 97) dX11_isTree_90 rfl (by decide) ⟨h26, by decide, by decide⟩ (fun c27 => ?_) (fun c27 => ?_)
      · replace hT := hTt c27
        refine g_iconst (npc := 98) dX11_isTree_97 rfl ?_
        exact K35 _ hT
      · replace hT := hTf (Decidable.not_not.mp c27)
        refine g_iconst (npc := 94) dX11_isTree_93 rfl ?_
        refine g_goto (npc := 98) dX11_isTree_94 (by decide) ?_
        exact K35 _ hT
    obtain ⟨h21, hTt, hTf⟩ := hT
    refine g_icmp_ne (npc := 71) (tgt := 75) dX11_isTree_68 rfl (by decide) ⟨h21, by decide, by decide⟩ (fun c22 => ?_) (fun c22 => ?_)
    · replace hT := hTt c22
      refine g_iconst (npc := 76) dX11_isTree_75 rfl ?_
      exact K38 _ hT
    · replace hT := hTf (Decidable.not_not.mp c22)
      refine g_iconst (npc := 72) dX11_isTree_71 rfl ?_
      refine g_goto (npc := 76) dX11_isTree_72 (by decide) ?_
      exact K38 _ hT
set_option maxRecDepth 20000 in
theorem e_Mo_isTree {x1 : Int} {s : Sto} {Q : Int → Sto → Prop} (hT : (-2147483648 ≤ x1 ∧ x1 < 2147483648) ∧ ((x1 < 0) → Q 0 s) ∧ ((0 ≤ x1) → ((-2147483648 ≤ x1 ∧ x1 < 2147483648) ∧ -2147483648 ≤ (ishl 1 (s 0 1)) ∧ (ishl 1 (s 0 1)) < 2147483648) ∧ (((ishl 1 (s 0 1)) ≤ x1) → Q 0 s) ∧ ((x1 < (ishl 1 (s 0 1))) → ∃ Q5 : Int → Sto → Prop, K_Mo_bits x1 s Q5 ∧ ∀ r8 s7, Q5 r8 s7 → ((-2147483648 ≤ r8 ∧ r8 < 2147483648) ∧ -2147483648 ≤ ((s7 0 0) - 1) ∧ ((s7 0 0) - 1) < 2147483648) ∧ ((r8 = ((s7 0 0) - 1)) → H_Mo_isTree_38 Q x1 (ishl 1 (s7 0 2)) 1 s7) ∧ ((¬ r8 = ((s7 0 0) - 1)) → Q 0 s7)))) : K_Mo_isTree x1 s Q := by
  refine Sp.body (by decide) (Nat.le_of_ble_eq_true rfl) ?_
  show Go SM M_Mo_isTree (fI Q) 0 [(0, .ref 0), (1, iV x1)] [] s
  refine g_iload_n (npc := 1) dX11_isTree_0 rfl rfl rfl ?_
  obtain ⟨h1, hTt, hTf⟩ := hT
  refine g_if_lt (npc := 4) (tgt := 27) dX11_isTree_1 rfl (by decide) h1 (fun c2 => ?_) (fun c2 => ?_)
  · replace hT := hTt c2
    refine g_iconst (npc := 28) dX11_isTree_27 rfl ?_
    exact g_iret dX11_isTree_28 rfl (by decide) ⟨_, rfl, hT⟩
  · replace hT := hTf (Int.not_lt.mp c2)
    refine g_iload_n (npc := 5) dX11_isTree_4 rfl rfl rfl ?_
    refine g_iconst (npc := 6) dX11_isTree_5 rfl ?_
    refine g_aload_n (npc := 7) dX11_isTree_6 rfl rfl rfl ?_
    refine gf_Mo_81 (npc := 10) dX11_isTree_7 rfl rfl ?_
    refine g_ishl (npc := 11) dX11_isTree_10 rfl ?_
    obtain ⟨h3, hTt, hTf⟩ := hT
    refine g_icmp_ge (npc := 14) (tgt := 27) dX11_isTree_11 rfl (by decide) h3 (fun c4 => ?_) (fun c4 => ?_)
    · replace hT := hTt c4
      refine g_iconst (npc := 28) dX11_isTree_27 rfl ?_
      exact g_iret dX11_isTree_28 rfl (by decide) ⟨_, rfl, hT⟩
    · replace hT := hTf (Int.not_le.mp c4)
      refine g_iload_n (npc := 15) dX11_isTree_14 rfl rfl rfl ?_
      obtain ⟨Q5, h6, hT⟩ := hT
      refine iv_Mo_227 (npc := 18) dX11_isTree_15 rfl rfl (Nat.le_of_ble_eq_true rfl) (by decide) h6 (fun r8 s7 e9 => ?_)
      replace hT := hT r8 s7 e9
      refine g_aload_n (npc := 19) dX11_isTree_18 rfl rfl rfl ?_
      refine gf_Mo_77 (npc := 22) dX11_isTree_19 rfl rfl ?_
      refine g_iconst (npc := 23) dX11_isTree_22 rfl ?_
      refine g_isub (npc := 24) dX11_isTree_23 rfl ?_
      obtain ⟨h10, hTt, hTf⟩ := hT
      refine g_icmp_eq (npc := 27) (tgt := 29) dX11_isTree_24 rfl (by decide) h10 (fun c11 => ?_) (fun c11 => ?_)
      · replace hT := hTt c11
        refine g_iconst (npc := 30) dX11_isTree_29 rfl ?_
        refine g_aload_n (npc := 31) dX11_isTree_30 rfl rfl rfl ?_
        refine gf_Mo_84 (npc := 34) dX11_isTree_31 rfl rfl ?_
        refine g_ishl (npc := 35) dX11_isTree_34 rfl ?_
        refine g_istore_n (npc := 36) (l' := [(0, .ref 0), (1, iV x1), (2, iV (ishl 1 (s7 0 2)))]) dX11_isTree_35 rfl rfl (by decide) rfl ?_
        refine g_iconst (npc := 37) dX11_isTree_36 rfl ?_
        refine g_istore_n (npc := 38) (l' := [(0, .ref 0), (1, iV x1), (2, iV (ishl 1 (s7 0 2))), (3, iV 1)]) dX11_isTree_37 rfl rfl (by decide) rfl ?_
        exact hT
      · replace hT := hTf c11
        refine g_iconst (npc := 28) dX11_isTree_27 rfl ?_
        exact g_iret dX11_isTree_28 rfl (by decide) ⟨_, rfl, hT⟩
abbrev H_Mo_takeTree_24 (Q : Int → Sto → Prop) (x2 : Int) (s : Sto) : Prop := Go SM M_Mo_takeTree (fI Q) 24 [(0, .ref 0), (2, iV x2)] [] s
set_option maxRecDepth 20000 in
theorem b_Mo_takeTree_24 {Q : Int → Sto → Prop} {x2 : Int} {s : Sto} (hT : ((-2147483648 ≤ x2 ∧ x2 < 2147483648) ∧ -2147483648 ≤ (s 0 0) ∧ (s 0 0) < 2147483648) ∧ (((s 0 0) ≤ x2) → ∃ Q20 : Int → Sto → Prop, K_Mo_sum s Q20 ∧ ∀ r23 s22, Q20 r23 s22 → Q r23 s22) ∧ ((x2 < (s 0 0)) → ((-2147483648 ≤ x2 ∧ x2 < 2147483648) ∧ -2147483648 ≤ (s 0 2) ∧ (s 0 2) < 2147483648) ∧ ((¬ x2 = (s 0 2)) → (0 ≤ x2 ∧ x2 < 8) ∧ (0 ≤ x2 ∧ x2 < 8) ∧ (0 ≤ x2 ∧ x2 < 8) ∧ ∀ s30, s30 = up s 5 (Int.toNat x2) ((s 4 (Int.toNat x2)) - (s 18 (Int.toNat x2))) → H_Mo_takeTree_24 Q (x2 + 1) s30) ∧ ((x2 = (s 0 2)) → (0 ≤ x2 ∧ x2 < 8) ∧ ∀ s32, s32 = up s 5 (Int.toNat x2) 0 → H_Mo_takeTree_24 Q (x2 + 1) s32))) : H_Mo_takeTree_24 Q x2 s := by
  refine g_iload_n (npc := 25) dX11_takeTree_24 rfl rfl rfl ?_
  refine g_aload_n (npc := 26) dX11_takeTree_25 rfl rfl rfl ?_
  refine gf_Mo_77 (npc := 29) dX11_takeTree_26 rfl rfl ?_
  obtain ⟨h18, hTt, hTf⟩ := hT
  refine g_icmp_ge (npc := 32) (tgt := 69) dX11_takeTree_29 rfl (by decide) h18 (fun c19 => ?_) (fun c19 => ?_)
  · replace hT := hTt c19
    refine g_aload_n (npc := 70) dX11_takeTree_69 rfl rfl rfl ?_
    obtain ⟨Q20, h21, hT⟩ := hT
    refine iv_Mo_123 (npc := 73) dX11_takeTree_70 rfl rfl (Nat.le_of_ble_eq_true rfl) (by decide) h21 (fun r23 s22 e24 => ?_)
    replace hT := hT r23 s22 e24
    exact g_iret dX11_takeTree_73 rfl rfl ⟨_, rfl, hT⟩
  · replace hT := hTf (Int.not_le.mp c19)
    refine g_aload_n (npc := 33) dX11_takeTree_32 rfl rfl rfl ?_
    refine gf_Mo_22 (npc := 36) dX11_takeTree_33 rfl rfl ?_
    refine g_iload_n (npc := 37) dX11_takeTree_36 rfl rfl rfl ?_
    refine g_iload_n (npc := 38) dX11_takeTree_37 rfl rfl rfl ?_
    refine g_aload_n (npc := 39) dX11_takeTree_38 rfl rfl rfl ?_
    refine gf_Mo_84 (npc := 42) dX11_takeTree_39 rfl rfl ?_
    obtain ⟨h25, hTt, hTf⟩ := hT
    refine g_icmp_ne (npc := 45) (tgt := 49) dX11_takeTree_42 rfl (by decide) h25 (fun c26 => ?_) (fun c26 => ?_)
    · replace hT := hTt c26
      refine g_aload_n (npc := 50) dX11_takeTree_49 rfl rfl rfl ?_
      refine gf_Mo_19 (npc := 53) dX11_takeTree_50 rfl rfl ?_
      refine g_iload_n (npc := 54) dX11_takeTree_53 rfl rfl rfl ?_
      obtain ⟨h27, hT⟩ := hT
      refine g_iald (npc := 55) dX11_takeTree_54 rfl arSM_4 h27 ?_
      refine g_aload_n (npc := 56) dX11_takeTree_55 rfl rfl rfl ?_
      refine gf_Mo_64 (npc := 59) dX11_takeTree_56 rfl rfl ?_
      refine g_iload_n (npc := 60) dX11_takeTree_59 rfl rfl rfl ?_
      obtain ⟨h28, hT⟩ := hT
      refine g_iald (npc := 61) dX11_takeTree_60 rfl arSM_18 h28 ?_
      refine g_isub (npc := 62) dX11_takeTree_61 rfl ?_
      obtain ⟨h29, hT⟩ := hT
      replace hT := hT _ rfl
      refine g_iast (npc := 63) dX11_takeTree_62 rfl arSM_5 h29  ?_
      refine g_iinc (npc := 66) (y := (x2 + 1)) (l' := [(0, .ref 0), (2, iV (x2 + 1))]) dX11_takeTree_63 rfl (by decide) rfl (by omega) rfl ?_
      refine g_goto (npc := 24) dX11_takeTree_66 (by decide) ?_
      exact hT
    · replace hT := hTf (Decidable.not_not.mp c26)
      refine g_iconst (npc := 46) dX11_takeTree_45 rfl ?_
      refine g_goto (npc := 62) dX11_takeTree_46 (by decide) ?_
      obtain ⟨h31, hT⟩ := hT
      replace hT := hT _ rfl
      refine g_iast (npc := 63) dX11_takeTree_62 rfl arSM_5 h31  ?_
      refine g_iinc (npc := 66) (y := (x2 + 1)) (l' := [(0, .ref 0), (2, iV (x2 + 1))]) dX11_takeTree_63 rfl (by decide) rfl (by omega) rfl ?_
      refine g_goto (npc := 24) dX11_takeTree_66 (by decide) ?_
      exact hT
set_option maxRecDepth 20000 in
theorem e_Mo_takeTree {x1 : Int} {s : Sto} {Q : Int → Sto → Prop} (hT : ∃ Q1 : Int → Sto → Prop, K_Mo_isTree x1 s Q1 ∧ ∀ r4 s3, Q1 r4 s3 → (-2147483648 ≤ r4 ∧ r4 < 2147483648) ∧ ((¬ r4 = 0) → ∃ Q8 : Sto → Prop, K_Mo_keepState s3 Q8 ∧ ∀ s10, Q8 s10 → ∃ Q13 : Int → Sto → Prop, K_Mo_follow x1 s10 Q13 ∧ ∀ r16 s15, Q13 r16 s15 → H_Mo_takeTree_24 Q 0 s15) ∧ ((r4 = 0) → Q (-10002) s3)) : K_Mo_takeTree x1 s Q := by
  refine Sp.body (by decide) (Nat.le_of_ble_eq_true rfl) ?_
  show Go SM M_Mo_takeTree (fI Q) 0 [(0, .ref 0), (1, iV x1)] [] s
  refine g_aload_n (npc := 1) dX11_takeTree_0 rfl rfl rfl ?_
  refine g_iload_n (npc := 2) dX11_takeTree_1 rfl rfl rfl ?_
  obtain ⟨Q1, h2, hT⟩ := hT
  refine iv_Mo_230 (npc := 5) dX11_takeTree_2 rfl rfl (Nat.le_of_ble_eq_true rfl) (by decide) h2 (fun r4 s3 e5 => ?_)
  replace hT := hT r4 s3 e5
  obtain ⟨h6, hTt, hTf⟩ := hT
  refine g_if_ne (npc := 8) (tgt := 12) dX11_takeTree_5 rfl (by decide) h6 (fun c7 => ?_) (fun c7 => ?_)
  · replace hT := hTt c7
    refine g_aload_n (npc := 13) dX11_takeTree_12 rfl rfl rfl ?_
    obtain ⟨Q8, h9, hT⟩ := hT
    refine iv_Mo_133 (npc := 16) dX11_takeTree_13 rfl rfl (Nat.le_of_ble_eq_true rfl) (by decide) h9 (fun s10 e12 => ?_)
    replace hT := hT s10 e12
    refine g_aload_n (npc := 17) dX11_takeTree_16 rfl rfl rfl ?_
    refine g_iload_n (npc := 18) dX11_takeTree_17 rfl rfl rfl ?_
    obtain ⟨Q13, h14, hT⟩ := hT
    refine iv_Mo_223 (npc := 21) dX11_takeTree_18 rfl rfl (Nat.le_of_ble_eq_true rfl) (by decide) h14 (fun r16 s15 e17 => ?_)
    replace hT := hT r16 s15 e17
    refine g_pop (npc := 22) dX11_takeTree_21 rfl rfl ?_
    refine g_iconst (npc := 23) dX11_takeTree_22 rfl ?_
    refine g_istore_n (npc := 24) (l' := [(0, .ref 0), (1, iV x1), (2, iV 0)]) dX11_takeTree_23 rfl rfl (by decide) rfl ?_
    refine Go.lsub [0, 2] rfl ?_
    exact hT
  · replace hT := hTf (Decidable.not_not.mp c7)
    refine g_sipush (npc := 11) (x := (-10002)) dX11_takeTree_8 rfl (by decide) ?_
    exact g_iret dX11_takeTree_11 rfl rfl ⟨_, rfl, hT⟩
abbrev H_Mo_treeAt_21 (Q : Int → Sto → Prop) (x1 : Int) (x2 : Int) (x3 : Int) (s : Sto) : Prop := Go SM M_Mo_treeAt (fI Q) 21 [(0, .ref 0), (1, iV x1), (2, iV x2), (3, iV x3)] [] s
set_option maxRecDepth 20000 in
theorem b_Mo_treeAt_21 {Q : Int → Sto → Prop} {x1 : Int} {x2 : Int} {x3 : Int} {s : Sto} (hT : ((-2147483648 ≤ x2 ∧ x2 < 2147483648) ∧ -2147483648 ≤ (ishl 1 (s 0 1)) ∧ (ishl 1 (s 0 1)) < 2147483648) ∧ (((ishl 1 (s 0 1)) ≤ x2) → Q (-10007) s) ∧ ((x2 < (ishl 1 (s 0 1))) → ∃ Q5 : Int → Sto → Prop, K_Mo_isTree x2 s Q5 ∧ ∀ r8 s7, Q5 r8 s7 → ∃ J12 : Int → Prop, (∀ v11, J12 v11 → (((-2147483648 ≤ (ixor x2 (x2 + (iand x2 (-x2)))) ∧ (ixor x2 (x2 + (iand x2 (-x2)))) < 2147483648) ∧ -2147483648 ≤ (iand x2 (-x2)) ∧ (iand x2 (-x2)) < 2147483648) ∧ ¬ (iand x2 (-x2)) = 0) ∧ H_Mo_treeAt_21 Q x1 (ior (x2 + (iand x2 (-x2))) (ishr (Int.tdiv (ixor x2 (x2 + (iand x2 (-x2)))) (iand x2 (-x2))) 2)) v11 s7) ∧ (-2147483648 ≤ r8 ∧ r8 < 2147483648) ∧ ((r8 = 0) → J12 x3) ∧ ((¬ r8 = 0) → ((-2147483648 ≤ x3 ∧ x3 < 2147483648) ∧ -2147483648 ≤ x1 ∧ x1 < 2147483648) ∧ ((¬ x3 = x1) → J12 (x3 + 1)) ∧ ((x3 = x1) → Q x2 s7)))) : H_Mo_treeAt_21 Q x1 x2 x3 s := by
  refine g_iload_n (npc := 22) dX11_treeAt_21 rfl rfl rfl ?_
  refine g_iconst (npc := 23) dX11_treeAt_22 rfl ?_
  refine g_aload_n (npc := 24) dX11_treeAt_23 rfl rfl rfl ?_
  refine gf_Mo_81 (npc := 27) dX11_treeAt_24 rfl rfl ?_
  refine g_ishl (npc := 28) dX11_treeAt_27 rfl ?_
  obtain ⟨h3, hTt, hTf⟩ := hT
  refine g_icmp_ge (npc := 31) (tgt := 77) dX11_treeAt_28 rfl (by decide) h3 (fun c4 => ?_) (fun c4 => ?_)
  · replace hT := hTt c4
    refine g_sipush (npc := 80) (x := (-10007)) dX11_treeAt_77 rfl (by decide) ?_
    exact g_iret dX11_treeAt_80 rfl rfl ⟨_, rfl, hT⟩
  · replace hT := hTf (Int.not_le.mp c4)
    refine g_aload_n (npc := 32) dX11_treeAt_31 rfl rfl rfl ?_
    refine g_iload_n (npc := 33) dX11_treeAt_32 rfl rfl rfl ?_
    obtain ⟨Q5, h6, hT⟩ := hT
    refine iv_Mo_230 (npc := 36) dX11_treeAt_33 rfl rfl (Nat.le_of_ble_eq_true rfl) (by decide) h6 (fun r8 s7 e9 => ?_)
    replace hT := hT r8 s7 e9
    obtain ⟨J12, hT⟩ := hT
    obtain ⟨hj16, hT⟩ := hT
    have K17 : ∀ (v11 : Int), J12 v11 → Go SM M_Mo_treeAt (fI Q) 49 [(0, .ref 0), (1, iV x1), (2, iV x2), (3, iV v11)] [] s7 := by
      intro v11 q20
      replace hT := hj16 v11 q20
      refine g_iload_n (npc := 50) dX11_treeAt_49 rfl rfl rfl ?_
      refine g_iload_n (npc := 51) dX11_treeAt_50 rfl rfl rfl ?_
      refine g_ineg (npc := 52) dX11_treeAt_51 rfl ?_
      refine g_iand (npc := 53) dX11_treeAt_52 rfl ?_
      refine g_istore (npc := 55) (l' := [(0, .ref 0), (1, iV x1), (2, iV x2), (3, iV v11), (4, iV (iand x2 (-x2)))]) dX11_treeAt_53 rfl (by decide) rfl ?_
      refine g_iload_n (npc := 56) dX11_treeAt_55 rfl rfl rfl ?_
      refine g_iload (npc := 58) dX11_treeAt_56 rfl rfl ?_
      refine g_iadd (npc := 59) dX11_treeAt_58 rfl ?_
      refine g_istore (npc := 61) (l' := [(0, .ref 0), (1, iV x1), (2, iV x2), (3, iV v11), (4, iV (iand x2 (-x2))), (5, iV (x2 + (iand x2 (-x2))))]) dX11_treeAt_59 rfl (by decide) rfl ?_
      refine g_iload (npc := 63) dX11_treeAt_61 rfl rfl ?_
      refine g_iload_n (npc := 64) dX11_treeAt_63 rfl rfl rfl ?_
      refine g_iload (npc := 66) dX11_treeAt_64 rfl rfl ?_
      refine g_ixor (npc := 67) dX11_treeAt_66 rfl ?_
      refine g_iload (npc := 69) dX11_treeAt_67 rfl rfl ?_
      obtain ⟨h15, hT⟩ := hT
      refine g_idiv (npc := 70) dX11_treeAt_69 rfl h15.1 h15.2 ?_
      refine g_iconst (npc := 71) dX11_treeAt_70 rfl ?_
      refine g_ishr (npc := 72) dX11_treeAt_71 rfl ?_
      refine g_ior (npc := 73) dX11_treeAt_72 rfl ?_
      refine g_istore_n (npc := 74) (l' := [(0, .ref 0), (1, iV x1), (2, iV (ior (x2 + (iand x2 (-x2))) (ishr (Int.tdiv (ixor x2 (x2 + (iand x2 (-x2)))) (iand x2 (-x2))) 2))), (3, iV v11), (4, iV (iand x2 (-x2))), (5, iV (x2 + (iand x2 (-x2))))]) dX11_treeAt_73 rfl rfl (by decide) rfl ?_
      refine g_goto (npc := 21) dX11_treeAt_74 (by decide) ?_
      refine Go.lsub [0, 1, 2, 3] rfl ?_
      exact hT
    obtain ⟨h13, hTt, hTf⟩ := hT
    refine g_if_eq (npc := 39) (tgt := 49) dX11_treeAt_36 rfl (by decide) h13 (fun c14 => ?_) (fun c14 => ?_)
    · replace hT := hTt c14
      exact K17 _ hT
    · replace hT := hTf c14
      refine g_iload_n (npc := 40) dX11_treeAt_39 rfl rfl rfl ?_
      refine g_iload_n (npc := 41) dX11_treeAt_40 rfl rfl rfl ?_
      obtain ⟨h18, hTt, hTf⟩ := hT
      refine g_icmp_ne (npc := 44) (tgt := 46) dX11_treeAt_41 rfl (by decide) h18 (fun c19 => ?_) (fun c19 => ?_)
      · replace hT := hTt c19
        refine g_iinc (npc := 49) (y := (x3 + 1)) (l' := [(0, .ref 0), (1, iV x1), (2, iV x2), (3, iV (x3 + 1))]) dX11_treeAt_46 rfl (by decide) rfl (by omega) rfl ?_
        exact K17 _ hT
      · replace hT := hTf (Decidable.not_not.mp c19)
        refine g_iload_n (npc := 45) dX11_treeAt_44 rfl rfl rfl ?_
        exact g_iret dX11_treeAt_45 rfl rfl ⟨_, rfl, hT⟩
set_option maxRecDepth 20000 in
theorem e_Mo_treeAt {x1 : Int} {s : Sto} {Q : Int → Sto → Prop} (hT : (-2147483648 ≤ x1 ∧ x1 < 2147483648) ∧ ((0 ≤ x1) → H_Mo_treeAt_21 Q x1 ((ishl 1 ((s 0 0) - 1)) - 1) 0 s) ∧ ((x1 < 0) → Q (-10002) s)) : K_Mo_treeAt x1 s Q := by
  refine Sp.body (by decide) (Nat.le_of_ble_eq_true rfl) ?_
  show Go SM M_Mo_treeAt (fI Q) 0 [(0, .ref 0), (1, iV x1)] [] s
  refine g_iload_n (npc := 1) dX11_treeAt_0 rfl rfl rfl ?_
  obtain ⟨h1, hTt, hTf⟩ := hT
  refine g_if_ge (npc := 4) (tgt := 8) dX11_treeAt_1 rfl (by decide) h1 (fun c2 => ?_) (fun c2 => ?_)
  · replace hT := hTt c2
    refine g_iconst (npc := 9) dX11_treeAt_8 rfl ?_
    refine g_aload_n (npc := 10) dX11_treeAt_9 rfl rfl rfl ?_
    refine gf_Mo_77 (npc := 13) dX11_treeAt_10 rfl rfl ?_
    refine g_iconst (npc := 14) dX11_treeAt_13 rfl ?_
    refine g_isub (npc := 15) dX11_treeAt_14 rfl ?_
    refine g_ishl (npc := 16) dX11_treeAt_15 rfl ?_
    refine g_iconst (npc := 17) dX11_treeAt_16 rfl ?_
    refine g_isub (npc := 18) dX11_treeAt_17 rfl ?_
    refine g_istore_n (npc := 19) (l' := [(0, .ref 0), (1, iV x1), (2, iV ((ishl 1 ((s 0 0) - 1)) - 1))]) dX11_treeAt_18 rfl rfl (by decide) rfl ?_
    refine g_iconst (npc := 20) dX11_treeAt_19 rfl ?_
    refine g_istore_n (npc := 21) (l' := [(0, .ref 0), (1, iV x1), (2, iV ((ishl 1 ((s 0 0) - 1)) - 1)), (3, iV 0)]) dX11_treeAt_20 rfl rfl (by decide) rfl ?_
    exact hT
  · replace hT := hTf (Int.not_le.mp c2)
    refine g_sipush (npc := 7) (x := (-10002)) dX11_treeAt_4 rfl (by decide) ?_
    exact g_iret dX11_treeAt_7 rfl rfl ⟨_, rfl, hT⟩
