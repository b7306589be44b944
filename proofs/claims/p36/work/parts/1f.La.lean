/-! blocks of ChipGameLaw -/
theorem dL_low_0 : decode cL_low 0 = .ok (.iload_n 0, 1) := by decide +kernel
theorem dL_low_1 : decode cL_low 1 = .ok (.ldc 8, 2) := by decide +kernel
theorem dL_low_3 : decode cL_low 3 = .ok (.iand, 1) := by decide +kernel
theorem dL_low_4 : decode cL_low 4 = .ok (.iload_n 1, 1) := by decide +kernel
theorem dL_low_5 : decode cL_low 5 = .ok (.irem, 1) := by decide +kernel
theorem dL_low_6 : decode cL_low 6 = .ok (.ireturn, 1) := by decide +kernel
theorem dL_joins_0 : decode cL_joins 0 = .ok (.iconst 0, 1) := by decide +kernel
theorem dL_joins_1 : decode cL_joins 1 = .ok (.istore_n 3, 1) := by decide +kernel
theorem dL_joins_2 : decode cL_joins 2 = .ok (.iconst 0, 1) := by decide +kernel
theorem dL_joins_3 : decode cL_joins 3 = .ok (.istore 4, 2) := by decide +kernel
theorem dL_joins_5 : decode cL_joins 5 = .ok (.iload 4, 2) := by decide +kernel
theorem dL_joins_7 : decode cL_joins 7 = .ok (.aload_n 0, 1) := by decide +kernel
theorem dL_joins_8 : decode cL_joins 8 = .ok (.iconst 1, 1) := by decide +kernel
theorem dL_joins_9 : decode cL_joins 9 = .ok (.invokevirtual 9, 3) := by decide +kernel
theorem dL_joins_12 : decode cL_joins 12 = .ok (.if_icmp .ge 59, 3) := by decide +kernel
theorem dL_joins_15 : decode cL_joins 15 = .ok (.aload_n 0, 1) := by decide +kernel
theorem dL_joins_16 : decode cL_joins 16 = .ok (.iload 4, 2) := by decide +kernel
theorem dL_joins_18 : decode cL_joins 18 = .ok (.iconst 0, 1) := by decide +kernel
theorem dL_joins_19 : decode cL_joins 19 = .ok (.invokevirtual 15, 3) := by decide +kernel
theorem dL_joins_22 : decode cL_joins 22 = .ok (.istore 5, 2) := by decide +kernel
theorem dL_joins_24 : decode cL_joins 24 = .ok (.aload_n 0, 1) := by decide +kernel
theorem dL_joins_25 : decode cL_joins 25 = .ok (.iload 4, 2) := by decide +kernel
theorem dL_joins_27 : decode cL_joins 27 = .ok (.iconst 1, 1) := by decide +kernel
theorem dL_joins_28 : decode cL_joins 28 = .ok (.invokevirtual 15, 3) := by decide +kernel
theorem dL_joins_31 : decode cL_joins 31 = .ok (.istore 6, 2) := by decide +kernel
theorem dL_joins_33 : decode cL_joins 33 = .ok (.iload_n 3, 1) := by decide +kernel
theorem dL_joins_34 : decode cL_joins 34 = .ok (.iload 5, 2) := by decide +kernel
theorem dL_joins_36 : decode cL_joins 36 = .ok (.iload_n 1, 1) := by decide +kernel
theorem dL_joins_37 : decode cL_joins 37 = .ok (.if_icmp .ne 9, 3) := by decide +kernel
theorem dL_joins_40 : decode cL_joins 40 = .ok (.iload 6, 2) := by decide +kernel
theorem dL_joins_42 : decode cL_joins 42 = .ok (.iload_n 2, 1) := by decide +kernel
theorem dL_joins_43 : decode cL_joins 43 = .ok (.if_icmp .eq 15, 3) := by decide +kernel
theorem dL_joins_46 : decode cL_joins 46 = .ok (.iload 5, 2) := by decide +kernel
theorem dL_joins_48 : decode cL_joins 48 = .ok (.iload_n 2, 1) := by decide +kernel
theorem dL_joins_49 : decode cL_joins 49 = .ok (.if_icmp .ne 13, 3) := by decide +kernel
theorem dL_joins_52 : decode cL_joins 52 = .ok (.iload 6, 2) := by decide +kernel
theorem dL_joins_54 : decode cL_joins 54 = .ok (.iload_n 1, 1) := by decide +kernel
theorem dL_joins_55 : decode cL_joins 55 = .ok (.if_icmp .ne 7, 3) := by decide +kernel
theorem dL_joins_58 : decode cL_joins 58 = .ok (.iconst 1, 1) := by decide +kernel
theorem dL_joins_59 : decode cL_joins 59 = .ok (.goto 4, 3) := by decide +kernel
theorem dL_joins_62 : decode cL_joins 62 = .ok (.iconst 0, 1) := by decide +kernel
theorem dL_joins_63 : decode cL_joins 63 = .ok (.iadd, 1) := by decide +kernel
theorem dL_joins_64 : decode cL_joins 64 = .ok (.istore_n 3, 1) := by decide +kernel
theorem dL_joins_65 : decode cL_joins 65 = .ok (.iinc 4 1, 3) := by decide +kernel
theorem dL_joins_68 : decode cL_joins 68 = .ok (.goto (-63), 3) := by decide +kernel
theorem dL_joins_71 : decode cL_joins 71 = .ok (.iload_n 3, 1) := by decide +kernel
theorem dL_joins_72 : decode cL_joins 72 = .ok (.ireturn, 1) := by decide +kernel
theorem dL_read_0 : decode cL_read 0 = .ok (.iconst 0, 1) := by decide +kernel
theorem dL_read_1 : decode cL_read 1 = .ok (.istore_n 2, 1) := by decide +kernel
theorem dL_read_2 : decode cL_read 2 = .ok (.iload_n 2, 1) := by decide +kernel
theorem dL_read_3 : decode cL_read 3 = .ok (.bipush 8, 2) := by decide +kernel
theorem dL_read_5 : decode cL_read 5 = .ok (.if_icmp .ge 39, 3) := by decide +kernel
theorem dL_read_8 : decode cL_read 8 = .ok (.aload_n 1, 1) := by decide +kernel
theorem dL_read_9 : decode cL_read 9 = .ok (.iload_n 2, 1) := by decide +kernel
theorem dL_read_10 : decode cL_read 10 = .ok (.iload_n 2, 1) := by decide +kernel
theorem dL_read_11 : decode cL_read 11 = .ok (.aload_n 0, 1) := by decide +kernel
theorem dL_read_12 : decode cL_read 12 = .ok (.iconst 0, 1) := by decide +kernel
theorem dL_read_13 : decode cL_read 13 = .ok (.invokevirtual 9, 3) := by decide +kernel
theorem dL_read_16 : decode cL_read 16 = .ok (.if_icmp .ge 20, 3) := by decide +kernel
theorem dL_read_19 : decode cL_read 19 = .ok (.iload_n 2, 1) := by decide +kernel
theorem dL_read_20 : decode cL_read 20 = .ok (.aload_n 0, 1) := by decide +kernel
theorem dL_read_21 : decode cL_read 21 = .ok (.iconst 2, 1) := by decide +kernel
theorem dL_read_22 : decode cL_read 22 = .ok (.invokevirtual 9, 3) := by decide +kernel
theorem dL_read_25 : decode cL_read 25 = .ok (.if_icmp .eq 11, 3) := by decide +kernel
theorem dL_read_28 : decode cL_read 28 = .ok (.aload_n 0, 1) := by decide +kernel
theorem dL_read_29 : decode cL_read 29 = .ok (.iload_n 2, 1) := by decide +kernel
theorem dL_read_30 : decode cL_read 30 = .ok (.invokevirtual 19, 3) := by decide +kernel
theorem dL_read_33 : decode cL_read 33 = .ok (.goto 4, 3) := by decide +kernel
theorem dL_read_36 : decode cL_read 36 = .ok (.iconst 0, 1) := by decide +kernel
theorem dL_read_37 : decode cL_read 37 = .ok (.iastore, 1) := by decide +kernel
theorem dL_read_38 : decode cL_read 38 = .ok (.iinc 2 1, 3) := by decide +kernel
theorem dL_read_41 : decode cL_read 41 = .ok (.goto (-39), 3) := by decide +kernel
theorem dL_read_44 : decode cL_read 44 = .ok (.return_, 1) := by decide +kernel
theorem dL_lay_0 : decode cL_lay 0 = .ok (.iconst 0, 1) := by decide +kernel
theorem dL_lay_1 : decode cL_lay 1 = .ok (.istore_n 2, 1) := by decide +kernel
theorem dL_lay_2 : decode cL_lay 2 = .ok (.iload_n 2, 1) := by decide +kernel
theorem dL_lay_3 : decode cL_lay 3 = .ok (.aload_n 0, 1) := by decide +kernel
theorem dL_lay_4 : decode cL_lay 4 = .ok (.iconst 0, 1) := by decide +kernel
theorem dL_lay_5 : decode cL_lay 5 = .ok (.invokevirtual 9, 3) := by decide +kernel
theorem dL_lay_8 : decode cL_lay 8 = .ok (.if_icmp .ge 27, 3) := by decide +kernel
theorem dL_lay_11 : decode cL_lay 11 = .ok (.iload_n 2, 1) := by decide +kernel
theorem dL_lay_12 : decode cL_lay 12 = .ok (.aload_n 0, 1) := by decide +kernel
theorem dL_lay_13 : decode cL_lay 13 = .ok (.iconst 2, 1) := by decide +kernel
theorem dL_lay_14 : decode cL_lay 14 = .ok (.invokevirtual 9, 3) := by decide +kernel
theorem dL_lay_17 : decode cL_lay 17 = .ok (.if_icmp .eq 12, 3) := by decide +kernel
theorem dL_lay_20 : decode cL_lay 20 = .ok (.aload_n 0, 1) := by decide +kernel
theorem dL_lay_21 : decode cL_lay 21 = .ok (.iload_n 2, 1) := by decide +kernel
theorem dL_lay_22 : decode cL_lay 22 = .ok (.aload_n 1, 1) := by decide +kernel
theorem dL_lay_23 : decode cL_lay 23 = .ok (.iload_n 2, 1) := by decide +kernel
theorem dL_lay_24 : decode cL_lay 24 = .ok (.iaload, 1) := by decide +kernel
theorem dL_lay_25 : decode cL_lay 25 = .ok (.invokevirtual 22, 3) := by decide +kernel
theorem dL_lay_28 : decode cL_lay 28 = .ok (.pop, 1) := by decide +kernel
theorem dL_lay_29 : decode cL_lay 29 = .ok (.iinc 2 1, 3) := by decide +kernel
theorem dL_lay_32 : decode cL_lay 32 = .ok (.goto (-30), 3) := by decide +kernel
theorem dL_lay_35 : decode cL_lay 35 = .ok (.return_, 1) := by decide +kernel
theorem dL_are_0 : decode cL_are 0 = .ok (.iconst 0, 1) := by decide +kernel
theorem dL_are_1 : decode cL_are 1 = .ok (.istore_n 2, 1) := by decide +kernel
theorem dL_are_2 : decode cL_are 2 = .ok (.iload_n 2, 1) := by decide +kernel
theorem dL_are_3 : decode cL_are 3 = .ok (.aload_n 0, 1) := by decide +kernel
theorem dL_are_4 : decode cL_are 4 = .ok (.iconst 0, 1) := by decide +kernel
theorem dL_are_5 : decode cL_are 5 = .ok (.invokevirtual 9, 3) := by decide +kernel
theorem dL_are_8 : decode cL_are 8 = .ok (.if_icmp .ge 31, 3) := by decide +kernel
theorem dL_are_11 : decode cL_are 11 = .ok (.iload_n 2, 1) := by decide +kernel
theorem dL_are_12 : decode cL_are 12 = .ok (.aload_n 0, 1) := by decide +kernel
theorem dL_are_13 : decode cL_are 13 = .ok (.iconst 2, 1) := by decide +kernel
theorem dL_are_14 : decode cL_are 14 = .ok (.invokevirtual 9, 3) := by decide +kernel
theorem dL_are_17 : decode cL_are 17 = .ok (.if_icmp .eq 16, 3) := by decide +kernel
theorem dL_are_20 : decode cL_are 20 = .ok (.aload_n 0, 1) := by decide +kernel
theorem dL_are_21 : decode cL_are 21 = .ok (.iload_n 2, 1) := by decide +kernel
theorem dL_are_22 : decode cL_are 22 = .ok (.invokevirtual 19, 3) := by decide +kernel
theorem dL_are_25 : decode cL_are 25 = .ok (.aload_n 1, 1) := by decide +kernel
theorem dL_are_26 : decode cL_are 26 = .ok (.iload_n 2, 1) := by decide +kernel
theorem dL_are_27 : decode cL_are 27 = .ok (.iaload, 1) := by decide +kernel
theorem dL_are_28 : decode cL_are 28 = .ok (.if_icmp .eq 5, 3) := by decide +kernel
theorem dL_are_31 : decode cL_are 31 = .ok (.iconst 0, 1) := by decide +kernel
theorem dL_are_32 : decode cL_are 32 = .ok (.ireturn, 1) := by decide +kernel
theorem dL_are_33 : decode cL_are 33 = .ok (.iinc 2 1, 3) := by decide +kernel
theorem dL_are_36 : decode cL_are 36 = .ok (.goto (-34), 3) := by decide +kernel
theorem dL_are_39 : decode cL_are 39 = .ok (.iconst 1, 1) := by decide +kernel
theorem dL_are_40 : decode cL_are 40 = .ok (.ireturn, 1) := by decide +kernel
theorem dL_settles_0 : decode cL_settles 0 = .ok (.aload_n 0, 1) := by decide +kernel
theorem dL_settles_1 : decode cL_settles 1 = .ok (.iconst 0, 1) := by decide +kernel
theorem dL_settles_2 : decode cL_settles 2 = .ok (.invokevirtual 9, 3) := by decide +kernel
theorem dL_settles_5 : decode cL_settles 5 = .ok (.istore_n 2, 1) := by decide +kernel
theorem dL_settles_6 : decode cL_settles 6 = .ok (.aload_n 0, 1) := by decide +kernel
theorem dL_settles_7 : decode cL_settles 7 = .ok (.iconst 2, 1) := by decide +kernel
theorem dL_settles_8 : decode cL_settles 8 = .ok (.invokevirtual 9, 3) := by decide +kernel
theorem dL_settles_11 : decode cL_settles 11 = .ok (.istore_n 3, 1) := by decide +kernel
theorem dL_settles_12 : decode cL_settles 12 = .ok (.bipush 8, 2) := by decide +kernel
theorem dL_settles_14 : decode cL_settles 14 = .ok (.newarray .int, 2) := by decide +kernel
theorem dL_settles_16 : decode cL_settles 16 = .ok (.astore 4, 2) := by decide +kernel
theorem dL_settles_18 : decode cL_settles 18 = .ok (.bipush 8, 2) := by decide +kernel
theorem dL_settles_20 : decode cL_settles 20 = .ok (.newarray .int, 2) := by decide +kernel
theorem dL_settles_22 : decode cL_settles 22 = .ok (.astore 5, 2) := by decide +kernel
theorem dL_settles_24 : decode cL_settles 24 = .ok (.bipush 8, 2) := by decide +kernel
theorem dL_settles_26 : decode cL_settles 26 = .ok (.newarray .int, 2) := by decide +kernel
theorem dL_settles_28 : decode cL_settles 28 = .ok (.astore 6, 2) := by decide +kernel
theorem dL_settles_30 : decode cL_settles 30 = .ok (.aload_n 0, 1) := by decide +kernel
theorem dL_settles_31 : decode cL_settles 31 = .ok (.aload 4, 2) := by decide +kernel
theorem dL_settles_33 : decode cL_settles 33 = .ok (.invokestatic 26, 3) := by decide +kernel
theorem dL_settles_36 : decode cL_settles 36 = .ok (.aload_n 0, 1) := by decide +kernel
theorem dL_settles_37 : decode cL_settles 37 = .ok (.iconst 3, 1) := by decide +kernel
theorem dL_settles_38 : decode cL_settles 38 = .ok (.invokevirtual 9, 3) := by decide +kernel
theorem dL_settles_41 : decode cL_settles 41 = .ok (.ifCond .ne 101, 3) := by decide +kernel
theorem dL_settles_44 : decode cL_settles 44 = .ok (.aload_n 0, 1) := by decide +kernel
theorem dL_settles_45 : decode cL_settles 45 = .ok (.invokevirtual 32, 3) := by decide +kernel
theorem dL_settles_48 : decode cL_settles 48 = .ok (.sipush (-10003), 3) := by decide +kernel
theorem dL_settles_51 : decode cL_settles 51 = .ok (.if_icmp .ne 89, 3) := by decide +kernel
theorem dL_settles_54 : decode cL_settles 54 = .ok (.aload_n 0, 1) := by decide +kernel
theorem dL_settles_55 : decode cL_settles 55 = .ok (.invokevirtual 36, 3) := by decide +kernel
theorem dL_settles_58 : decode cL_settles 58 = .ok (.sipush (-10003), 3) := by decide +kernel
theorem dL_settles_61 : decode cL_settles 61 = .ok (.if_icmp .ne 79, 3) := by decide +kernel
theorem dL_settles_64 : decode cL_settles 64 = .ok (.aload_n 0, 1) := by decide +kernel
theorem dL_settles_65 : decode cL_settles 65 = .ok (.invokevirtual 39, 3) := by decide +kernel
theorem dL_settles_68 : decode cL_settles 68 = .ok (.sipush (-10003), 3) := by decide +kernel
theorem dL_settles_71 : decode cL_settles 71 = .ok (.if_icmp .ne 69, 3) := by decide +kernel
theorem dL_settles_74 : decode cL_settles 74 = .ok (.aload_n 0, 1) := by decide +kernel
theorem dL_settles_75 : decode cL_settles 75 = .ok (.invokevirtual 42, 3) := by decide +kernel
theorem dL_settles_78 : decode cL_settles 78 = .ok (.sipush (-10003), 3) := by decide +kernel
theorem dL_settles_81 : decode cL_settles 81 = .ok (.if_icmp .ne 59, 3) := by decide +kernel
theorem dL_settles_84 : decode cL_settles 84 = .ok (.aload_n 0, 1) := by decide +kernel
theorem dL_settles_85 : decode cL_settles 85 = .ok (.invokevirtual 45, 3) := by decide +kernel
theorem dL_settles_88 : decode cL_settles 88 = .ok (.lconst 0, 1) := by decide +kernel
theorem dL_settles_89 : decode cL_settles 89 = .ok (.lcmp, 1) := by decide +kernel
theorem dL_settles_90 : decode cL_settles 90 = .ok (.ifCond .ne 50, 3) := by decide +kernel
theorem dL_settles_93 : decode cL_settles 93 = .ok (.aload_n 0, 1) := by decide +kernel
theorem dL_settles_94 : decode cL_settles 94 = .ok (.invokevirtual 49, 3) := by decide +kernel
theorem dL_settles_97 : decode cL_settles 97 = .ok (.bipush 6, 2) := by decide +kernel
theorem dL_settles_99 : decode cL_settles 99 = .ok (.iand, 1) := by decide +kernel
theorem dL_settles_100 : decode cL_settles 100 = .ok (.ifCond .ne 40, 3) := by decide +kernel
theorem dL_settles_103 : decode cL_settles 103 = .ok (.aload_n 0, 1) := by decide +kernel
theorem dL_settles_104 : decode cL_settles 104 = .ok (.iconst (-1), 1) := by decide +kernel
theorem dL_settles_105 : decode cL_settles 105 = .ok (.invokevirtual 52, 3) := by decide +kernel
theorem dL_settles_108 : decode cL_settles 108 = .ok (.ldc2_w 56, 3) := by decide +kernel
theorem dL_settles_111 : decode cL_settles 111 = .ok (.lcmp, 1) := by decide +kernel
theorem dL_settles_112 : decode cL_settles 112 = .ok (.ifCond .ge 28, 3) := by decide +kernel
theorem dL_settles_115 : decode cL_settles 115 = .ok (.aload_n 0, 1) := by decide +kernel
theorem dL_settles_116 : decode cL_settles 116 = .ok (.iconst 0, 1) := by decide +kernel
theorem dL_settles_117 : decode cL_settles 117 = .ok (.invokevirtual 58, 3) := by decide +kernel
theorem dL_settles_120 : decode cL_settles 120 = .ok (.sipush (-10003), 3) := by decide +kernel
theorem dL_settles_123 : decode cL_settles 123 = .ok (.if_icmp .ne 17, 3) := by decide +kernel
theorem dL_settles_126 : decode cL_settles 126 = .ok (.aload_n 0, 1) := by decide +kernel
theorem dL_settles_127 : decode cL_settles 127 = .ok (.invokevirtual 61, 3) := by decide +kernel
theorem dL_settles_130 : decode cL_settles 130 = .ok (.sipush (-10004), 3) := by decide +kernel
theorem dL_settles_133 : decode cL_settles 133 = .ok (.if_icmp .ne 7, 3) := by decide +kernel
theorem dL_settles_136 : decode cL_settles 136 = .ok (.iconst 1, 1) := by decide +kernel
theorem dL_settles_137 : decode cL_settles 137 = .ok (.goto 4, 3) := by decide +kernel
theorem dL_settles_140 : decode cL_settles 140 = .ok (.iconst 0, 1) := by decide +kernel
theorem dL_settles_141 : decode cL_settles 141 = .ok (.ireturn, 1) := by decide +kernel
theorem dL_settles_142 : decode cL_settles 142 = .ok (.iconst 0, 1) := by decide +kernel
theorem dL_settles_143 : decode cL_settles 143 = .ok (.istore 7, 2) := by decide +kernel
theorem dL_settles_145 : decode cL_settles 145 = .ok (.iload 7, 2) := by decide +kernel
theorem dL_settles_147 : decode cL_settles 147 = .ok (.iload_n 2, 1) := by decide +kernel
theorem dL_settles_148 : decode cL_settles 148 = .ok (.if_icmp .ge 30, 3) := by decide +kernel
theorem dL_settles_151 : decode cL_settles 151 = .ok (.aload 5, 2) := by decide +kernel
theorem dL_settles_153 : decode cL_settles 153 = .ok (.iload 7, 2) := by decide +kernel
theorem dL_settles_155 : decode cL_settles 155 = .ok (.iload 7, 2) := by decide +kernel
theorem dL_settles_157 : decode cL_settles 157 = .ok (.iload_n 3, 1) := by decide +kernel
theorem dL_settles_158 : decode cL_settles 158 = .ok (.if_icmp .ne 7, 3) := by decide +kernel
theorem dL_settles_161 : decode cL_settles 161 = .ok (.iconst 0, 1) := by decide +kernel
theorem dL_settles_162 : decode cL_settles 162 = .ok (.goto 9, 3) := by decide +kernel
theorem dL_settles_165 : decode cL_settles 165 = .ok (.aload_n 0, 1) := by decide +kernel
theorem dL_settles_166 : decode cL_settles 166 = .ok (.iload 7, 2) := by decide +kernel
theorem dL_settles_168 : decode cL_settles 168 = .ok (.invokevirtual 64, 3) := by decide +kernel
theorem dL_settles_171 : decode cL_settles 171 = .ok (.iastore, 1) := by decide +kernel
theorem dL_settles_172 : decode cL_settles 172 = .ok (.iinc 7 1, 3) := by decide +kernel
theorem dL_settles_175 : decode cL_settles 175 = .ok (.goto (-30), 3) := by decide +kernel
theorem dL_settles_178 : decode cL_settles 178 = .ok (.iconst 0, 1) := by decide +kernel
theorem dL_settles_179 : decode cL_settles 179 = .ok (.istore 7, 2) := by decide +kernel
theorem dL_settles_181 : decode cL_settles 181 = .ok (.iload 7, 2) := by decide +kernel
theorem dL_settles_183 : decode cL_settles 183 = .ok (.iload_n 2, 1) := by decide +kernel
theorem dL_settles_184 : decode cL_settles 184 = .ok (.if_icmp .ge 70, 3) := by decide +kernel
theorem dL_settles_187 : decode cL_settles 187 = .ok (.aload 4, 2) := by decide +kernel
theorem dL_settles_189 : decode cL_settles 189 = .ok (.iload 7, 2) := by decide +kernel
theorem dL_settles_191 : decode cL_settles 191 = .ok (.iaload, 1) := by decide +kernel
theorem dL_settles_192 : decode cL_settles 192 = .ok (.aload 5, 2) := by decide +kernel
theorem dL_settles_194 : decode cL_settles 194 = .ok (.iload 7, 2) := by decide +kernel
theorem dL_settles_196 : decode cL_settles 196 = .ok (.iaload, 1) := by decide +kernel
theorem dL_settles_197 : decode cL_settles 197 = .ok (.aload_n 0, 1) := by decide +kernel
theorem dL_settles_198 : decode cL_settles 198 = .ok (.iload 7, 2) := by decide +kernel
theorem dL_settles_200 : decode cL_settles 200 = .ok (.invokevirtual 67, 3) := by decide +kernel
theorem dL_settles_203 : decode cL_settles 203 = .ok (.imul, 1) := by decide +kernel
theorem dL_settles_204 : decode cL_settles 204 = .ok (.isub, 1) := by decide +kernel
theorem dL_settles_205 : decode cL_settles 205 = .ok (.istore 8, 2) := by decide +kernel
theorem dL_settles_207 : decode cL_settles 207 = .ok (.iconst 0, 1) := by decide +kernel
theorem dL_settles_208 : decode cL_settles 208 = .ok (.istore 9, 2) := by decide +kernel
theorem dL_settles_210 : decode cL_settles 210 = .ok (.iload 9, 2) := by decide +kernel
theorem dL_settles_212 : decode cL_settles 212 = .ok (.iload_n 2, 1) := by decide +kernel
theorem dL_settles_213 : decode cL_settles 213 = .ok (.if_icmp .ge 28, 3) := by decide +kernel
theorem dL_settles_216 : decode cL_settles 216 = .ok (.iload 8, 2) := by decide +kernel
theorem dL_settles_218 : decode cL_settles 218 = .ok (.aload 5, 2) := by decide +kernel
theorem dL_settles_220 : decode cL_settles 220 = .ok (.iload 9, 2) := by decide +kernel
theorem dL_settles_222 : decode cL_settles 222 = .ok (.iaload, 1) := by decide +kernel
theorem dL_settles_223 : decode cL_settles 223 = .ok (.aload_n 0, 1) := by decide +kernel
theorem dL_settles_224 : decode cL_settles 224 = .ok (.iload 7, 2) := by decide +kernel
theorem dL_settles_226 : decode cL_settles 226 = .ok (.iload 9, 2) := by decide +kernel
theorem dL_settles_228 : decode cL_settles 228 = .ok (.invokestatic 70, 3) := by decide +kernel
theorem dL_settles_231 : decode cL_settles 231 = .ok (.imul, 1) := by decide +kernel
theorem dL_settles_232 : decode cL_settles 232 = .ok (.iadd, 1) := by decide +kernel
theorem dL_settles_233 : decode cL_settles 233 = .ok (.istore 8, 2) := by decide +kernel
theorem dL_settles_235 : decode cL_settles 235 = .ok (.iinc 9 1, 3) := by decide +kernel
theorem dL_settles_238 : decode cL_settles 238 = .ok (.goto (-28), 3) := by decide +kernel
theorem dL_settles_241 : decode cL_settles 241 = .ok (.aload 6, 2) := by decide +kernel
theorem dL_settles_243 : decode cL_settles 243 = .ok (.iload 7, 2) := by decide +kernel
theorem dL_settles_245 : decode cL_settles 245 = .ok (.iload 8, 2) := by decide +kernel
theorem dL_settles_247 : decode cL_settles 247 = .ok (.iastore, 1) := by decide +kernel
theorem dL_settles_248 : decode cL_settles 248 = .ok (.iinc 7 1, 3) := by decide +kernel
theorem dL_settles_251 : decode cL_settles 251 = .ok (.goto (-70), 3) := by decide +kernel
theorem dL_settles_254 : decode cL_settles 254 = .ok (.iconst 0, 1) := by decide +kernel
theorem dL_settles_255 : decode cL_settles 255 = .ok (.istore 7, 2) := by decide +kernel
theorem dL_settles_257 : decode cL_settles 257 = .ok (.iconst 0, 1) := by decide +kernel
theorem dL_settles_258 : decode cL_settles 258 = .ok (.istore 8, 2) := by decide +kernel
theorem dL_settles_260 : decode cL_settles 260 = .ok (.iconst 1, 1) := by decide +kernel
theorem dL_settles_261 : decode cL_settles 261 = .ok (.istore 9, 2) := by decide +kernel
theorem dL_settles_263 : decode cL_settles 263 = .ok (.bipush 8, 2) := by decide +kernel
theorem dL_settles_265 : decode cL_settles 265 = .ok (.newarray .int, 2) := by decide +kernel
theorem dL_settles_267 : decode cL_settles 267 = .ok (.astore 10, 2) := by decide +kernel
theorem dL_settles_269 : decode cL_settles 269 = .ok (.iload 9, 2) := by decide +kernel
theorem dL_settles_271 : decode cL_settles 271 = .ok (.ifCond .eq 119, 3) := by decide +kernel
theorem dL_settles_274 : decode cL_settles 274 = .ok (.iload 8, 2) := by decide +kernel
theorem dL_settles_276 : decode cL_settles 276 = .ok (.bipush 60, 2) := by decide +kernel
theorem dL_settles_278 : decode cL_settles 278 = .ok (.if_icmp .ge 112, 3) := by decide +kernel
theorem dL_settles_281 : decode cL_settles 281 = .ok (.iconst 0, 1) := by decide +kernel
theorem dL_settles_282 : decode cL_settles 282 = .ok (.istore 9, 2) := by decide +kernel
theorem dL_settles_284 : decode cL_settles 284 = .ok (.iconst 0, 1) := by decide +kernel
theorem dL_settles_285 : decode cL_settles 285 = .ok (.istore 11, 2) := by decide +kernel
theorem dL_settles_287 : decode cL_settles 287 = .ok (.iload 11, 2) := by decide +kernel
theorem dL_settles_289 : decode cL_settles 289 = .ok (.iload_n 2, 1) := by decide +kernel
theorem dL_settles_290 : decode cL_settles 290 = .ok (.if_icmp .ge 97, 3) := by decide +kernel
theorem dL_settles_293 : decode cL_settles 293 = .ok (.iload_n 1, 1) := by decide +kernel
theorem dL_settles_294 : decode cL_settles 294 = .ok (.iconst 1, 1) := by decide +kernel
theorem dL_settles_295 : decode cL_settles 295 = .ok (.iand, 1) := by decide +kernel
theorem dL_settles_296 : decode cL_settles 296 = .ok (.ifCond .ne 8, 3) := by decide +kernel
theorem dL_settles_299 : decode cL_settles 299 = .ok (.iload 11, 2) := by decide +kernel
theorem dL_settles_301 : decode cL_settles 301 = .ok (.goto 9, 3) := by decide +kernel
theorem dL_settles_304 : decode cL_settles 304 = .ok (.iload_n 2, 1) := by decide +kernel
theorem dL_settles_305 : decode cL_settles 305 = .ok (.iconst 1, 1) := by decide +kernel
theorem dL_settles_306 : decode cL_settles 306 = .ok (.isub, 1) := by decide +kernel
theorem dL_settles_307 : decode cL_settles 307 = .ok (.iload 11, 2) := by decide +kernel
theorem dL_settles_309 : decode cL_settles 309 = .ok (.isub, 1) := by decide +kernel
theorem dL_settles_310 : decode cL_settles 310 = .ok (.istore 12, 2) := by decide +kernel
theorem dL_settles_312 : decode cL_settles 312 = .ok (.iload 12, 2) := by decide +kernel
theorem dL_settles_314 : decode cL_settles 314 = .ok (.iload_n 3, 1) := by decide +kernel
theorem dL_settles_315 : decode cL_settles 315 = .ok (.if_icmp .eq 66, 3) := by decide +kernel
theorem dL_settles_318 : decode cL_settles 318 = .ok (.aload_n 0, 1) := by decide +kernel
theorem dL_settles_319 : decode cL_settles 319 = .ok (.iload 12, 2) := by decide +kernel
theorem dL_settles_321 : decode cL_settles 321 = .ok (.invokevirtual 19, 3) := by decide +kernel
theorem dL_settles_324 : decode cL_settles 324 = .ok (.aload_n 0, 1) := by decide +kernel
theorem dL_settles_325 : decode cL_settles 325 = .ok (.iload 12, 2) := by decide +kernel
theorem dL_settles_327 : decode cL_settles 327 = .ok (.invokevirtual 67, 3) := by decide +kernel
theorem dL_settles_330 : decode cL_settles 330 = .ok (.if_icmp .lt 51, 3) := by decide +kernel
theorem dL_settles_333 : decode cL_settles 333 = .ok (.iload 9, 2) := by decide +kernel
theorem dL_settles_335 : decode cL_settles 335 = .ok (.ifCond .ne 46, 3) := by decide +kernel
theorem dL_settles_338 : decode cL_settles 338 = .ok (.aload_n 0, 1) := by decide +kernel
theorem dL_settles_339 : decode cL_settles 339 = .ok (.iload 12, 2) := by decide +kernel
theorem dL_settles_341 : decode cL_settles 341 = .ok (.invokevirtual 19, 3) := by decide +kernel
theorem dL_settles_344 : decode cL_settles 344 = .ok (.istore 13, 2) := by decide +kernel
theorem dL_settles_346 : decode cL_settles 346 = .ok (.aload_n 0, 1) := by decide +kernel
theorem dL_settles_347 : decode cL_settles 347 = .ok (.iload 12, 2) := by decide +kernel
theorem dL_settles_349 : decode cL_settles 349 = .ok (.invokevirtual 74, 3) := by decide +kernel
theorem dL_settles_352 : decode cL_settles 352 = .ok (.iload 13, 2) := by decide +kernel
theorem dL_settles_354 : decode cL_settles 354 = .ok (.aload_n 0, 1) := by decide +kernel
theorem dL_settles_355 : decode cL_settles 355 = .ok (.iload 12, 2) := by decide +kernel
theorem dL_settles_357 : decode cL_settles 357 = .ok (.invokevirtual 67, 3) := by decide +kernel
theorem dL_settles_360 : decode cL_settles 360 = .ok (.isub, 1) := by decide +kernel
theorem dL_settles_361 : decode cL_settles 361 = .ok (.if_icmp .eq 5, 3) := by decide +kernel
theorem dL_settles_364 : decode cL_settles 364 = .ok (.iconst 0, 1) := by decide +kernel
theorem dL_settles_365 : decode cL_settles 365 = .ok (.ireturn, 1) := by decide +kernel
theorem dL_settles_366 : decode cL_settles 366 = .ok (.aload 10, 2) := by decide +kernel
theorem dL_settles_368 : decode cL_settles 368 = .ok (.iload 12, 2) := by decide +kernel
theorem dL_settles_370 : decode cL_settles 370 = .ok (.dup2, 1) := by decide +kernel
theorem dL_settles_371 : decode cL_settles 371 = .ok (.iaload, 1) := by decide +kernel
theorem dL_settles_372 : decode cL_settles 372 = .ok (.iconst 1, 1) := by decide +kernel
theorem dL_settles_373 : decode cL_settles 373 = .ok (.iadd, 1) := by decide +kernel
theorem dL_settles_374 : decode cL_settles 374 = .ok (.iastore, 1) := by decide +kernel
theorem dL_settles_375 : decode cL_settles 375 = .ok (.iinc 8 1, 3) := by decide +kernel
theorem dL_settles_378 : decode cL_settles 378 = .ok (.iconst 1, 1) := by decide +kernel
theorem dL_settles_379 : decode cL_settles 379 = .ok (.istore 9, 2) := by decide +kernel
theorem dL_settles_381 : decode cL_settles 381 = .ok (.iinc 11 1, 3) := by decide +kernel
theorem dL_settles_384 : decode cL_settles 384 = .ok (.goto (-97), 3) := by decide +kernel
theorem dL_settles_387 : decode cL_settles 387 = .ok (.goto (-118), 3) := by decide +kernel
theorem dL_settles_390 : decode cL_settles 390 = .ok (.iconst 0, 1) := by decide +kernel
theorem dL_settles_391 : decode cL_settles 391 = .ok (.istore 11, 2) := by decide +kernel
theorem dL_settles_393 : decode cL_settles 393 = .ok (.iload 11, 2) := by decide +kernel
theorem dL_settles_395 : decode cL_settles 395 = .ok (.iload_n 2, 1) := by decide +kernel
theorem dL_settles_396 : decode cL_settles 396 = .ok (.if_icmp .ge 60, 3) := by decide +kernel
theorem dL_settles_399 : decode cL_settles 399 = .ok (.iload 7, 2) := by decide +kernel
theorem dL_settles_401 : decode cL_settles 401 = .ok (.aload 5, 2) := by decide +kernel
theorem dL_settles_403 : decode cL_settles 403 = .ok (.iload 11, 2) := by decide +kernel
theorem dL_settles_405 : decode cL_settles 405 = .ok (.iaload, 1) := by decide +kernel
theorem dL_settles_406 : decode cL_settles 406 = .ok (.iadd, 1) := by decide +kernel
theorem dL_settles_407 : decode cL_settles 407 = .ok (.istore 7, 2) := by decide +kernel
theorem dL_settles_409 : decode cL_settles 409 = .ok (.aload 10, 2) := by decide +kernel
theorem dL_settles_411 : decode cL_settles 411 = .ok (.iload 11, 2) := by decide +kernel
theorem dL_settles_413 : decode cL_settles 413 = .ok (.iaload, 1) := by decide +kernel
theorem dL_settles_414 : decode cL_settles 414 = .ok (.aload 5, 2) := by decide +kernel
theorem dL_settles_416 : decode cL_settles 416 = .ok (.iload 11, 2) := by decide +kernel
theorem dL_settles_418 : decode cL_settles 418 = .ok (.iaload, 1) := by decide +kernel
theorem dL_settles_419 : decode cL_settles 419 = .ok (.if_icmp .gt 29, 3) := by decide +kernel
theorem dL_settles_422 : decode cL_settles 422 = .ok (.iload 11, 2) := by decide +kernel
theorem dL_settles_424 : decode cL_settles 424 = .ok (.iload_n 3, 1) := by decide +kernel
theorem dL_settles_425 : decode cL_settles 425 = .ok (.if_icmp .eq 25, 3) := by decide +kernel
theorem dL_settles_428 : decode cL_settles 428 = .ok (.aload_n 0, 1) := by decide +kernel
theorem dL_settles_429 : decode cL_settles 429 = .ok (.iload 11, 2) := by decide +kernel
theorem dL_settles_431 : decode cL_settles 431 = .ok (.invokevirtual 64, 3) := by decide +kernel
theorem dL_settles_434 : decode cL_settles 434 = .ok (.aload 5, 2) := by decide +kernel
theorem dL_settles_436 : decode cL_settles 436 = .ok (.iload 11, 2) := by decide +kernel
theorem dL_settles_438 : decode cL_settles 438 = .ok (.iaload, 1) := by decide +kernel
theorem dL_settles_439 : decode cL_settles 439 = .ok (.aload 10, 2) := by decide +kernel
theorem dL_settles_441 : decode cL_settles 441 = .ok (.iload 11, 2) := by decide +kernel
theorem dL_settles_443 : decode cL_settles 443 = .ok (.iaload, 1) := by decide +kernel
theorem dL_settles_444 : decode cL_settles 444 = .ok (.isub, 1) := by decide +kernel
theorem dL_settles_445 : decode cL_settles 445 = .ok (.if_icmp .eq 5, 3) := by decide +kernel
theorem dL_settles_448 : decode cL_settles 448 = .ok (.iconst 0, 1) := by decide +kernel
theorem dL_settles_449 : decode cL_settles 449 = .ok (.ireturn, 1) := by decide +kernel
theorem dL_settles_450 : decode cL_settles 450 = .ok (.iinc 11 1, 3) := by decide +kernel
theorem dL_settles_453 : decode cL_settles 453 = .ok (.goto (-60), 3) := by decide +kernel
theorem dL_settles_456 : decode cL_settles 456 = .ok (.aload_n 0, 1) := by decide +kernel
theorem dL_settles_457 : decode cL_settles 457 = .ok (.invokevirtual 32, 3) := by decide +kernel
theorem dL_settles_460 : decode cL_settles 460 = .ok (.iload 7, 2) := by decide +kernel
theorem dL_settles_462 : decode cL_settles 462 = .ok (.iload 8, 2) := by decide +kernel
theorem dL_settles_464 : decode cL_settles 464 = .ok (.isub, 1) := by decide +kernel
theorem dL_settles_465 : decode cL_settles 465 = .ok (.if_icmp .ne 28, 3) := by decide +kernel
theorem dL_settles_468 : decode cL_settles 468 = .ok (.aload_n 0, 1) := by decide +kernel
theorem dL_settles_469 : decode cL_settles 469 = .ok (.aload 6, 2) := by decide +kernel
theorem dL_settles_471 : decode cL_settles 471 = .ok (.invokestatic 77, 3) := by decide +kernel
theorem dL_settles_474 : decode cL_settles 474 = .ok (.ifCond .eq 19, 3) := by decide +kernel
theorem dL_settles_477 : decode cL_settles 477 = .ok (.aload_n 0, 1) := by decide +kernel
theorem dL_settles_478 : decode cL_settles 478 = .ok (.invokevirtual 49, 3) := by decide +kernel
theorem dL_settles_481 : decode cL_settles 481 = .ok (.iconst 1, 1) := by decide +kernel
theorem dL_settles_482 : decode cL_settles 482 = .ok (.iand, 1) := by decide +kernel
theorem dL_settles_483 : decode cL_settles 483 = .ok (.ifCond .eq 10, 3) := by decide +kernel
theorem dL_settles_486 : decode cL_settles 486 = .ok (.aload_n 0, 1) := by decide +kernel
theorem dL_settles_487 : decode cL_settles 487 = .ok (.invokevirtual 32, 3) := by decide +kernel
theorem dL_settles_490 : decode cL_settles 490 = .ok (.ifCond .eq 5, 3) := by decide +kernel
theorem dL_settles_493 : decode cL_settles 493 = .ok (.iconst 0, 1) := by decide +kernel
theorem dL_settles_494 : decode cL_settles 494 = .ok (.ireturn, 1) := by decide +kernel
theorem dL_settles_495 : decode cL_settles 495 = .ok (.iconst 0, 1) := by decide +kernel
theorem dL_settles_496 : decode cL_settles 496 = .ok (.istore 11, 2) := by decide +kernel
theorem dL_settles_498 : decode cL_settles 498 = .ok (.iload 11, 2) := by decide +kernel
theorem dL_settles_500 : decode cL_settles 500 = .ok (.iload_n 2, 1) := by decide +kernel
theorem dL_settles_501 : decode cL_settles 501 = .ok (.if_icmp .ge 51, 3) := by decide +kernel
theorem dL_settles_504 : decode cL_settles 504 = .ok (.iload 11, 2) := by decide +kernel
theorem dL_settles_506 : decode cL_settles 506 = .ok (.iload_n 3, 1) := by decide +kernel
theorem dL_settles_507 : decode cL_settles 507 = .ok (.if_icmp .eq 39, 3) := by decide +kernel
theorem dL_settles_510 : decode cL_settles 510 = .ok (.aload 6, 2) := by decide +kernel
theorem dL_settles_512 : decode cL_settles 512 = .ok (.iload 11, 2) := by decide +kernel
theorem dL_settles_514 : decode cL_settles 514 = .ok (.iaload, 1) := by decide +kernel
theorem dL_settles_515 : decode cL_settles 515 = .ok (.ifCond .lt 29, 3) := by decide +kernel
theorem dL_settles_518 : decode cL_settles 518 = .ok (.aload 6, 2) := by decide +kernel
theorem dL_settles_520 : decode cL_settles 520 = .ok (.iload 11, 2) := by decide +kernel
theorem dL_settles_522 : decode cL_settles 522 = .ok (.iaload, 1) := by decide +kernel
theorem dL_settles_523 : decode cL_settles 523 = .ok (.aload_n 0, 1) := by decide +kernel
theorem dL_settles_524 : decode cL_settles 524 = .ok (.iload 11, 2) := by decide +kernel
theorem dL_settles_526 : decode cL_settles 526 = .ok (.invokevirtual 67, 3) := by decide +kernel
theorem dL_settles_529 : decode cL_settles 529 = .ok (.if_icmp .ge 15, 3) := by decide +kernel
theorem dL_settles_532 : decode cL_settles 532 = .ok (.aload_n 0, 1) := by decide +kernel
theorem dL_settles_533 : decode cL_settles 533 = .ok (.iload 11, 2) := by decide +kernel
theorem dL_settles_535 : decode cL_settles 535 = .ok (.invokevirtual 74, 3) := by decide +kernel
theorem dL_settles_538 : decode cL_settles 538 = .ok (.sipush (-10004), 3) := by decide +kernel
theorem dL_settles_541 : decode cL_settles 541 = .ok (.if_icmp .eq 5, 3) := by decide +kernel
theorem dL_settles_544 : decode cL_settles 544 = .ok (.iconst 0, 1) := by decide +kernel
theorem dL_settles_545 : decode cL_settles 545 = .ok (.ireturn, 1) := by decide +kernel
theorem dL_settles_546 : decode cL_settles 546 = .ok (.iinc 11 1, 3) := by decide +kernel
theorem dL_settles_549 : decode cL_settles 549 = .ok (.goto (-51), 3) := by decide +kernel
theorem dL_settles_552 : decode cL_settles 552 = .ok (.iconst 1, 1) := by decide +kernel
theorem dL_settles_553 : decode cL_settles 553 = .ok (.ireturn, 1) := by decide +kernel
theorem dL_classes_0 : decode cL_classes 0 = .ok (.aload_n 0, 1) := by decide +kernel
theorem dL_classes_1 : decode cL_classes 1 = .ok (.iconst 0, 1) := by decide +kernel
theorem dL_classes_2 : decode cL_classes 2 = .ok (.invokevirtual 9, 3) := by decide +kernel
theorem dL_classes_5 : decode cL_classes 5 = .ok (.istore_n 1, 1) := by decide +kernel
theorem dL_classes_6 : decode cL_classes 6 = .ok (.aload_n 0, 1) := by decide +kernel
theorem dL_classes_7 : decode cL_classes 7 = .ok (.iconst 2, 1) := by decide +kernel
theorem dL_classes_8 : decode cL_classes 8 = .ok (.invokevirtual 9, 3) := by decide +kernel
theorem dL_classes_11 : decode cL_classes 11 = .ok (.istore_n 2, 1) := by decide +kernel
theorem dL_classes_12 : decode cL_classes 12 = .ok (.bipush 8, 2) := by decide +kernel
theorem dL_classes_14 : decode cL_classes 14 = .ok (.newarray .int, 2) := by decide +kernel
theorem dL_classes_16 : decode cL_classes 16 = .ok (.astore_n 3, 1) := by decide +kernel
theorem dL_classes_17 : decode cL_classes 17 = .ok (.bipush 8, 2) := by decide +kernel
theorem dL_classes_19 : decode cL_classes 19 = .ok (.newarray .int, 2) := by decide +kernel
theorem dL_classes_21 : decode cL_classes 21 = .ok (.astore 4, 2) := by decide +kernel
theorem dL_classes_23 : decode cL_classes 23 = .ok (.bipush 8, 2) := by decide +kernel
theorem dL_classes_25 : decode cL_classes 25 = .ok (.newarray .int, 2) := by decide +kernel
theorem dL_classes_27 : decode cL_classes 27 = .ok (.astore 5, 2) := by decide +kernel
theorem dL_classes_29 : decode cL_classes 29 = .ok (.aload_n 0, 1) := by decide +kernel
theorem dL_classes_30 : decode cL_classes 30 = .ok (.aload_n 3, 1) := by decide +kernel
theorem dL_classes_31 : decode cL_classes 31 = .ok (.invokestatic 26, 3) := by decide +kernel
theorem dL_classes_34 : decode cL_classes 34 = .ok (.aload_n 0, 1) := by decide +kernel
theorem dL_classes_35 : decode cL_classes 35 = .ok (.iconst 0, 1) := by decide +kernel
theorem dL_classes_36 : decode cL_classes 36 = .ok (.invokevirtual 81, 3) := by decide +kernel
theorem dL_classes_39 : decode cL_classes 39 = .ok (.pop, 1) := by decide +kernel
theorem dL_classes_40 : decode cL_classes 40 = .ok (.aload_n 0, 1) := by decide +kernel
theorem dL_classes_41 : decode cL_classes 41 = .ok (.invokevirtual 36, 3) := by decide +kernel
theorem dL_classes_44 : decode cL_classes 44 = .ok (.istore 6, 2) := by decide +kernel
theorem dL_classes_46 : decode cL_classes 46 = .ok (.aload_n 0, 1) := by decide +kernel
theorem dL_classes_47 : decode cL_classes 47 = .ok (.aload 4, 2) := by decide +kernel
theorem dL_classes_49 : decode cL_classes 49 = .ok (.invokestatic 26, 3) := by decide +kernel
theorem dL_classes_52 : decode cL_classes 52 = .ok (.iload 6, 2) := by decide +kernel
theorem dL_classes_54 : decode cL_classes 54 = .ok (.ifCond .lt 29, 3) := by decide +kernel
theorem dL_classes_57 : decode cL_classes 57 = .ok (.aload_n 0, 1) := by decide +kernel
theorem dL_classes_58 : decode cL_classes 58 = .ok (.invokevirtual 49, 3) := by decide +kernel
theorem dL_classes_61 : decode cL_classes 61 = .ok (.iconst 5, 1) := by decide +kernel
theorem dL_classes_62 : decode cL_classes 62 = .ok (.iand, 1) := by decide +kernel
theorem dL_classes_63 : decode cL_classes 63 = .ok (.iconst 5, 1) := by decide +kernel
theorem dL_classes_64 : decode cL_classes 64 = .ok (.if_icmp .ne 19, 3) := by decide +kernel
theorem dL_classes_67 : decode cL_classes 67 = .ok (.aload_n 0, 1) := by decide +kernel
theorem dL_classes_68 : decode cL_classes 68 = .ok (.invokevirtual 36, 3) := by decide +kernel
theorem dL_classes_71 : decode cL_classes 71 = .ok (.ifCond .ne 12, 3) := by decide +kernel
theorem dL_classes_74 : decode cL_classes 74 = .ok (.aload_n 0, 1) := by decide +kernel
theorem dL_classes_75 : decode cL_classes 75 = .ok (.iconst 0, 1) := by decide +kernel
theorem dL_classes_76 : decode cL_classes 76 = .ok (.invokevirtual 84, 3) := by decide +kernel
theorem dL_classes_79 : decode cL_classes 79 = .ok (.iconst 1, 1) := by decide +kernel
theorem dL_classes_80 : decode cL_classes 80 = .ok (.if_icmp .eq 5, 3) := by decide +kernel
theorem dL_classes_83 : decode cL_classes 83 = .ok (.iconst 0, 1) := by decide +kernel
theorem dL_classes_84 : decode cL_classes 84 = .ok (.ireturn, 1) := by decide +kernel
theorem dL_classes_85 : decode cL_classes 85 = .ok (.iconst 0, 1) := by decide +kernel
theorem dL_classes_86 : decode cL_classes 86 = .ok (.istore 7, 2) := by decide +kernel
theorem dL_classes_88 : decode cL_classes 88 = .ok (.iload 7, 2) := by decide +kernel
theorem dL_classes_90 : decode cL_classes 90 = .ok (.iload_n 1, 1) := by decide +kernel
theorem dL_classes_91 : decode cL_classes 91 = .ok (.if_icmp .ge 38, 3) := by decide +kernel
theorem dL_classes_94 : decode cL_classes 94 = .ok (.aload 5, 2) := by decide +kernel
theorem dL_classes_96 : decode cL_classes 96 = .ok (.iload 7, 2) := by decide +kernel
theorem dL_classes_98 : decode cL_classes 98 = .ok (.iload 7, 2) := by decide +kernel
theorem dL_classes_100 : decode cL_classes 100 = .ok (.iload_n 2, 1) := by decide +kernel
theorem dL_classes_101 : decode cL_classes 101 = .ok (.if_icmp .ne 7, 3) := by decide +kernel
theorem dL_classes_104 : decode cL_classes 104 = .ok (.iconst 0, 1) := by decide +kernel
theorem dL_classes_105 : decode cL_classes 105 = .ok (.goto 17, 3) := by decide +kernel
theorem dL_classes_108 : decode cL_classes 108 = .ok (.aload_n 0, 1) := by decide +kernel
theorem dL_classes_109 : decode cL_classes 109 = .ok (.iload 7, 2) := by decide +kernel
theorem dL_classes_111 : decode cL_classes 111 = .ok (.invokevirtual 67, 3) := by decide +kernel
theorem dL_classes_114 : decode cL_classes 114 = .ok (.iconst 1, 1) := by decide +kernel
theorem dL_classes_115 : decode cL_classes 115 = .ok (.isub, 1) := by decide +kernel
theorem dL_classes_116 : decode cL_classes 116 = .ok (.aload 4, 2) := by decide +kernel
theorem dL_classes_118 : decode cL_classes 118 = .ok (.iload 7, 2) := by decide +kernel
theorem dL_classes_120 : decode cL_classes 120 = .ok (.iaload, 1) := by decide +kernel
theorem dL_classes_121 : decode cL_classes 121 = .ok (.isub, 1) := by decide +kernel
theorem dL_classes_122 : decode cL_classes 122 = .ok (.iastore, 1) := by decide +kernel
theorem dL_classes_123 : decode cL_classes 123 = .ok (.iinc 7 1, 3) := by decide +kernel
theorem dL_classes_126 : decode cL_classes 126 = .ok (.goto (-38), 3) := by decide +kernel
theorem dL_classes_129 : decode cL_classes 129 = .ok (.aload_n 0, 1) := by decide +kernel
theorem dL_classes_130 : decode cL_classes 130 = .ok (.aload 5, 2) := by decide +kernel
theorem dL_classes_132 : decode cL_classes 132 = .ok (.invokestatic 87, 3) := by decide +kernel
theorem dL_classes_135 : decode cL_classes 135 = .ok (.aload_n 0, 1) := by decide +kernel
theorem dL_classes_136 : decode cL_classes 136 = .ok (.invokevirtual 49, 3) := by decide +kernel
theorem dL_classes_139 : decode cL_classes 139 = .ok (.iconst 2, 1) := by decide +kernel
theorem dL_classes_140 : decode cL_classes 140 = .ok (.iand, 1) := by decide +kernel
theorem dL_classes_141 : decode cL_classes 141 = .ok (.ifCond .ne 5, 3) := by decide +kernel
theorem dL_classes_144 : decode cL_classes 144 = .ok (.iconst 0, 1) := by decide +kernel
theorem dL_classes_145 : decode cL_classes 145 = .ok (.ireturn, 1) := by decide +kernel
theorem dL_classes_146 : decode cL_classes 146 = .ok (.aload_n 0, 1) := by decide +kernel
theorem dL_classes_147 : decode cL_classes 147 = .ok (.aload_n 3, 1) := by decide +kernel
theorem dL_classes_148 : decode cL_classes 148 = .ok (.invokestatic 87, 3) := by decide +kernel
theorem dL_classes_151 : decode cL_classes 151 = .ok (.aload_n 0, 1) := by decide +kernel
theorem dL_classes_152 : decode cL_classes 152 = .ok (.invokevirtual 39, 3) := by decide +kernel
theorem dL_classes_155 : decode cL_classes 155 = .ok (.pop, 1) := by decide +kernel
theorem dL_classes_156 : decode cL_classes 156 = .ok (.aload_n 0, 1) := by decide +kernel
theorem dL_classes_157 : decode cL_classes 157 = .ok (.aload 5, 2) := by decide +kernel
theorem dL_classes_159 : decode cL_classes 159 = .ok (.invokestatic 26, 3) := by decide +kernel
theorem dL_classes_162 : decode cL_classes 162 = .ok (.aload_n 0, 1) := by decide +kernel
theorem dL_classes_163 : decode cL_classes 163 = .ok (.invokevirtual 49, 3) := by decide +kernel
theorem dL_classes_166 : decode cL_classes 166 = .ok (.iconst 3, 1) := by decide +kernel
theorem dL_classes_167 : decode cL_classes 167 = .ok (.iand, 1) := by decide +kernel
theorem dL_classes_168 : decode cL_classes 168 = .ok (.iconst 3, 1) := by decide +kernel
theorem dL_classes_169 : decode cL_classes 169 = .ok (.if_icmp .ne 19, 3) := by decide +kernel
theorem dL_classes_172 : decode cL_classes 172 = .ok (.aload_n 0, 1) := by decide +kernel
theorem dL_classes_173 : decode cL_classes 173 = .ok (.invokevirtual 39, 3) := by decide +kernel
theorem dL_classes_176 : decode cL_classes 176 = .ok (.ifCond .ne 12, 3) := by decide +kernel
theorem dL_classes_179 : decode cL_classes 179 = .ok (.aload_n 0, 1) := by decide +kernel
theorem dL_classes_180 : decode cL_classes 180 = .ok (.iconst 0, 1) := by decide +kernel
theorem dL_classes_181 : decode cL_classes 181 = .ok (.invokevirtual 84, 3) := by decide +kernel
theorem dL_classes_184 : decode cL_classes 184 = .ok (.iconst 1, 1) := by decide +kernel
theorem dL_classes_185 : decode cL_classes 185 = .ok (.if_icmp .eq 5, 3) := by decide +kernel
theorem dL_classes_188 : decode cL_classes 188 = .ok (.iconst 0, 1) := by decide +kernel
theorem dL_classes_189 : decode cL_classes 189 = .ok (.ireturn, 1) := by decide +kernel
theorem dL_classes_190 : decode cL_classes 190 = .ok (.aload_n 0, 1) := by decide +kernel
theorem dL_classes_191 : decode cL_classes 191 = .ok (.iconst 1, 1) := by decide +kernel
theorem dL_classes_192 : decode cL_classes 192 = .ok (.invokevirtual 81, 3) := by decide +kernel
theorem dL_classes_195 : decode cL_classes 195 = .ok (.pop, 1) := by decide +kernel
theorem dL_classes_196 : decode cL_classes 196 = .ok (.aload_n 0, 1) := by decide +kernel
theorem dL_classes_197 : decode cL_classes 197 = .ok (.invokevirtual 61, 3) := by decide +kernel
theorem dL_classes_200 : decode cL_classes 200 = .ok (.istore 7, 2) := by decide +kernel
theorem dL_classes_202 : decode cL_classes 202 = .ok (.aload_n 0, 1) := by decide +kernel
theorem dL_classes_203 : decode cL_classes 203 = .ok (.invokevirtual 90, 3) := by decide +kernel
theorem dL_classes_206 : decode cL_classes 206 = .ok (.istore 8, 2) := by decide +kernel
theorem dL_classes_208 : decode cL_classes 208 = .ok (.aload_n 0, 1) := by decide +kernel
theorem dL_classes_209 : decode cL_classes 209 = .ok (.iconst 4, 1) := by decide +kernel
theorem dL_classes_210 : decode cL_classes 210 = .ok (.invokevirtual 9, 3) := by decide +kernel
theorem dL_classes_213 : decode cL_classes 213 = .ok (.istore 9, 2) := by decide +kernel
theorem dL_classes_215 : decode cL_classes 215 = .ok (.iload 8, 2) := by decide +kernel
theorem dL_classes_217 : decode cL_classes 217 = .ok (.ifCond .lt 27, 3) := by decide +kernel
theorem dL_classes_220 : decode cL_classes 220 = .ok (.iload 8, 2) := by decide +kernel
theorem dL_classes_222 : decode cL_classes 222 = .ok (.iload 9, 2) := by decide +kernel
theorem dL_classes_224 : decode cL_classes 224 = .ok (.aload_n 0, 1) := by decide +kernel
theorem dL_classes_225 : decode cL_classes 225 = .ok (.bipush 6, 2) := by decide +kernel
theorem dL_classes_227 : decode cL_classes 227 = .ok (.invokevirtual 9, 3) := by decide +kernel
theorem dL_classes_230 : decode cL_classes 230 = .ok (.isub, 1) := by decide +kernel
theorem dL_classes_231 : decode cL_classes 231 = .ok (.if_icmp .ne 13, 3) := by decide +kernel
theorem dL_classes_234 : decode cL_classes 234 = .ok (.aload_n 0, 1) := by decide +kernel
theorem dL_classes_235 : decode cL_classes 235 = .ok (.iload 8, 2) := by decide +kernel
theorem dL_classes_237 : decode cL_classes 237 = .ok (.invokevirtual 58, 3) := by decide +kernel
theorem dL_classes_240 : decode cL_classes 240 = .ok (.iconst 1, 1) := by decide +kernel
theorem dL_classes_241 : decode cL_classes 241 = .ok (.if_icmp .ge 5, 3) := by decide +kernel
theorem dL_classes_244 : decode cL_classes 244 = .ok (.iconst 0, 1) := by decide +kernel
theorem dL_classes_245 : decode cL_classes 245 = .ok (.ireturn, 1) := by decide +kernel
theorem dL_classes_246 : decode cL_classes 246 = .ok (.aload_n 0, 1) := by decide +kernel
theorem dL_classes_247 : decode cL_classes 247 = .ok (.aload_n 3, 1) := by decide +kernel
theorem dL_classes_248 : decode cL_classes 248 = .ok (.invokestatic 87, 3) := by decide +kernel
theorem dL_classes_251 : decode cL_classes 251 = .ok (.aload_n 0, 1) := by decide +kernel
theorem dL_classes_252 : decode cL_classes 252 = .ok (.iload 7, 2) := by decide +kernel
theorem dL_classes_254 : decode cL_classes 254 = .ok (.invokevirtual 93, 3) := by decide +kernel
theorem dL_classes_257 : decode cL_classes 257 = .ok (.iload 9, 2) := by decide +kernel
theorem dL_classes_259 : decode cL_classes 259 = .ok (.if_icmp .ne 41, 3) := by decide +kernel
theorem dL_classes_262 : decode cL_classes 262 = .ok (.aload_n 0, 1) := by decide +kernel
theorem dL_classes_263 : decode cL_classes 263 = .ok (.aload 5, 2) := by decide +kernel
theorem dL_classes_265 : decode cL_classes 265 = .ok (.invokestatic 77, 3) := by decide +kernel
theorem dL_classes_268 : decode cL_classes 268 = .ok (.ifCond .eq 32, 3) := by decide +kernel
theorem dL_classes_271 : decode cL_classes 271 = .ok (.aload_n 0, 1) := by decide +kernel
theorem dL_classes_272 : decode cL_classes 272 = .ok (.invokevirtual 61, 3) := by decide +kernel
theorem dL_classes_275 : decode cL_classes 275 = .ok (.iload 7, 2) := by decide +kernel
theorem dL_classes_277 : decode cL_classes 277 = .ok (.if_icmp .ne 23, 3) := by decide +kernel
theorem dL_classes_280 : decode cL_classes 280 = .ok (.aload_n 0, 1) := by decide +kernel
theorem dL_classes_281 : decode cL_classes 281 = .ok (.iload 7, 2) := by decide +kernel
theorem dL_classes_283 : decode cL_classes 283 = .ok (.iconst 1, 1) := by decide +kernel
theorem dL_classes_284 : decode cL_classes 284 = .ok (.aload_n 0, 1) := by decide +kernel
theorem dL_classes_285 : decode cL_classes 285 = .ok (.iconst 1, 1) := by decide +kernel
theorem dL_classes_286 : decode cL_classes 286 = .ok (.invokevirtual 9, 3) := by decide +kernel
theorem dL_classes_289 : decode cL_classes 289 = .ok (.ishl, 1) := by decide +kernel
theorem dL_classes_290 : decode cL_classes 290 = .ok (.ior, 1) := by decide +kernel
theorem dL_classes_291 : decode cL_classes 291 = .ok (.invokevirtual 93, 3) := by decide +kernel
theorem dL_classes_294 : decode cL_classes 294 = .ok (.sipush (-10002), 3) := by decide +kernel
theorem dL_classes_297 : decode cL_classes 297 = .ok (.if_icmp .eq 5, 3) := by decide +kernel
theorem dL_classes_300 : decode cL_classes 300 = .ok (.iconst 0, 1) := by decide +kernel
theorem dL_classes_301 : decode cL_classes 301 = .ok (.ireturn, 1) := by decide +kernel
theorem dL_classes_302 : decode cL_classes 302 = .ok (.aload_n 0, 1) := by decide +kernel
theorem dL_classes_303 : decode cL_classes 303 = .ok (.invokevirtual 42, 3) := by decide +kernel
theorem dL_classes_306 : decode cL_classes 306 = .ok (.istore 10, 2) := by decide +kernel
theorem dL_classes_308 : decode cL_classes 308 = .ok (.iconst 0, 1) := by decide +kernel
theorem dL_classes_309 : decode cL_classes 309 = .ok (.istore 11, 2) := by decide +kernel
theorem dL_classes_311 : decode cL_classes 311 = .ok (.iload 11, 2) := by decide +kernel
theorem dL_classes_313 : decode cL_classes 313 = .ok (.iload_n 1, 1) := by decide +kernel
theorem dL_classes_314 : decode cL_classes 314 = .ok (.if_icmp .ge 30, 3) := by decide +kernel
theorem dL_classes_317 : decode cL_classes 317 = .ok (.aload 4, 2) := by decide +kernel
theorem dL_classes_319 : decode cL_classes 319 = .ok (.iload 11, 2) := by decide +kernel
theorem dL_classes_321 : decode cL_classes 321 = .ok (.iload 11, 2) := by decide +kernel
theorem dL_classes_323 : decode cL_classes 323 = .ok (.iload_n 2, 1) := by decide +kernel
theorem dL_classes_324 : decode cL_classes 324 = .ok (.if_icmp .ne 7, 3) := by decide +kernel
theorem dL_classes_327 : decode cL_classes 327 = .ok (.iconst 0, 1) := by decide +kernel
theorem dL_classes_328 : decode cL_classes 328 = .ok (.goto 9, 3) := by decide +kernel
theorem dL_classes_331 : decode cL_classes 331 = .ok (.aload_n 0, 1) := by decide +kernel
theorem dL_classes_332 : decode cL_classes 332 = .ok (.iload 11, 2) := by decide +kernel
theorem dL_classes_334 : decode cL_classes 334 = .ok (.invokevirtual 96, 3) := by decide +kernel
theorem dL_classes_337 : decode cL_classes 337 = .ok (.iastore, 1) := by decide +kernel
theorem dL_classes_338 : decode cL_classes 338 = .ok (.iinc 11 1, 3) := by decide +kernel
theorem dL_classes_341 : decode cL_classes 341 = .ok (.goto (-30), 3) := by decide +kernel
theorem dL_classes_344 : decode cL_classes 344 = .ok (.aload_n 0, 1) := by decide +kernel
theorem dL_classes_345 : decode cL_classes 345 = .ok (.aload 4, 2) := by decide +kernel
theorem dL_classes_347 : decode cL_classes 347 = .ok (.invokestatic 87, 3) := by decide +kernel
theorem dL_classes_350 : decode cL_classes 350 = .ok (.aload_n 0, 1) := by decide +kernel
theorem dL_classes_351 : decode cL_classes 351 = .ok (.invokevirtual 49, 3) := by decide +kernel
theorem dL_classes_354 : decode cL_classes 354 = .ok (.iconst 2, 1) := by decide +kernel
theorem dL_classes_355 : decode cL_classes 355 = .ok (.iand, 1) := by decide +kernel
theorem dL_classes_356 : decode cL_classes 356 = .ok (.ifCond .le 47, 3) := by decide +kernel
theorem dL_classes_359 : decode cL_classes 359 = .ok (.aload_n 0, 1) := by decide +kernel
theorem dL_classes_360 : decode cL_classes 360 = .ok (.invokevirtual 42, 3) := by decide +kernel
theorem dL_classes_363 : decode cL_classes 363 = .ok (.iconst 1, 1) := by decide +kernel
theorem dL_classes_364 : decode cL_classes 364 = .ok (.if_icmp .ne 39, 3) := by decide +kernel
theorem dL_classes_367 : decode cL_classes 367 = .ok (.aload_n 0, 1) := by decide +kernel
theorem dL_classes_368 : decode cL_classes 368 = .ok (.iconst 1, 1) := by decide +kernel
theorem dL_classes_369 : decode cL_classes 369 = .ok (.invokevirtual 99, 3) := by decide +kernel
theorem dL_classes_372 : decode cL_classes 372 = .ok (.aload 4, 2) := by decide +kernel
theorem dL_classes_374 : decode cL_classes 374 = .ok (.invokestatic 102, 3) := by decide +kernel
theorem dL_classes_377 : decode cL_classes 377 = .ok (.iload 9, 2) := by decide +kernel
theorem dL_classes_379 : decode cL_classes 379 = .ok (.iadd, 1) := by decide +kernel
theorem dL_classes_380 : decode cL_classes 380 = .ok (.if_icmp .ne 23, 3) := by decide +kernel
theorem dL_classes_383 : decode cL_classes 383 = .ok (.aload_n 0, 1) := by decide +kernel
theorem dL_classes_384 : decode cL_classes 384 = .ok (.invokevirtual 32, 3) := by decide +kernel
theorem dL_classes_387 : decode cL_classes 387 = .ok (.ifCond .lt 16, 3) := by decide +kernel
theorem dL_classes_390 : decode cL_classes 390 = .ok (.aload_n 0, 1) := by decide +kernel
theorem dL_classes_391 : decode cL_classes 391 = .ok (.aload 5, 2) := by decide +kernel
theorem dL_classes_393 : decode cL_classes 393 = .ok (.invokestatic 77, 3) := by decide +kernel
theorem dL_classes_396 : decode cL_classes 396 = .ok (.ifCond .eq 7, 3) := by decide +kernel
theorem dL_classes_399 : decode cL_classes 399 = .ok (.iconst 1, 1) := by decide +kernel
theorem dL_classes_400 : decode cL_classes 400 = .ok (.goto 4, 3) := by decide +kernel
theorem dL_classes_403 : decode cL_classes 403 = .ok (.iconst 0, 1) := by decide +kernel
theorem dL_classes_404 : decode cL_classes 404 = .ok (.istore 11, 2) := by decide +kernel
theorem dL_classes_406 : decode cL_classes 406 = .ok (.iload 11, 2) := by decide +kernel
theorem dL_classes_408 : decode cL_classes 408 = .ok (.ifCond .ne 5, 3) := by decide +kernel
theorem dL_classes_411 : decode cL_classes 411 = .ok (.iconst 0, 1) := by decide +kernel
theorem dL_classes_412 : decode cL_classes 412 = .ok (.ireturn, 1) := by decide +kernel
theorem dL_classes_413 : decode cL_classes 413 = .ok (.aload_n 0, 1) := by decide +kernel
theorem dL_classes_414 : decode cL_classes 414 = .ok (.aload 4, 2) := by decide +kernel
theorem dL_classes_416 : decode cL_classes 416 = .ok (.invokestatic 87, 3) := by decide +kernel
theorem dL_classes_419 : decode cL_classes 419 = .ok (.iconst 0, 1) := by decide +kernel
theorem dL_classes_420 : decode cL_classes 420 = .ok (.istore 12, 2) := by decide +kernel
theorem dL_classes_422 : decode cL_classes 422 = .ok (.iconst 0, 1) := by decide +kernel
theorem dL_classes_423 : decode cL_classes 423 = .ok (.istore 13, 2) := by decide +kernel
theorem dL_classes_425 : decode cL_classes 425 = .ok (.iload 13, 2) := by decide +kernel
theorem dL_classes_427 : decode cL_classes 427 = .ok (.iload 10, 2) := by decide +kernel
theorem dL_classes_429 : decode cL_classes 429 = .ok (.if_icmp .ge 53, 3) := by decide +kernel
theorem dL_classes_432 : decode cL_classes 432 = .ok (.iload 13, 2) := by decide +kernel
theorem dL_classes_434 : decode cL_classes 434 = .ok (.bipush 40, 2) := by decide +kernel
theorem dL_classes_436 : decode cL_classes 436 = .ok (.if_icmp .ge 46, 3) := by decide +kernel
theorem dL_classes_439 : decode cL_classes 439 = .ok (.aload_n 0, 1) := by decide +kernel
theorem dL_classes_440 : decode cL_classes 440 = .ok (.iconst 1, 1) := by decide +kernel
theorem dL_classes_441 : decode cL_classes 441 = .ok (.invokevirtual 99, 3) := by decide +kernel
theorem dL_classes_444 : decode cL_classes 444 = .ok (.pop, 1) := by decide +kernel
theorem dL_classes_445 : decode cL_classes 445 = .ok (.aload_n 0, 1) := by decide +kernel
theorem dL_classes_446 : decode cL_classes 446 = .ok (.invokevirtual 32, 3) := by decide +kernel
theorem dL_classes_449 : decode cL_classes 449 = .ok (.pop, 1) := by decide +kernel
theorem dL_classes_450 : decode cL_classes 450 = .ok (.iinc 12 1, 3) := by decide +kernel
theorem dL_classes_453 : decode cL_classes 453 = .ok (.aload_n 0, 1) := by decide +kernel
theorem dL_classes_454 : decode cL_classes 454 = .ok (.aload 4, 2) := by decide +kernel
theorem dL_classes_456 : decode cL_classes 456 = .ok (.invokestatic 77, 3) := by decide +kernel
theorem dL_classes_459 : decode cL_classes 459 = .ok (.iload 12, 2) := by decide +kernel
theorem dL_classes_461 : decode cL_classes 461 = .ok (.iload 10, 2) := by decide +kernel
theorem dL_classes_463 : decode cL_classes 463 = .ok (.if_icmp .ne 7, 3) := by decide +kernel
theorem dL_classes_466 : decode cL_classes 466 = .ok (.iconst 1, 1) := by decide +kernel
theorem dL_classes_467 : decode cL_classes 467 = .ok (.goto 4, 3) := by decide +kernel
theorem dL_classes_470 : decode cL_classes 470 = .ok (.iconst 0, 1) := by decide +kernel
theorem dL_classes_471 : decode cL_classes 471 = .ok (.if_icmp .eq 5, 3) := by decide +kernel
theorem dL_classes_474 : decode cL_classes 474 = .ok (.iconst 0, 1) := by decide +kernel
theorem dL_classes_475 : decode cL_classes 475 = .ok (.ireturn, 1) := by decide +kernel
theorem dL_classes_476 : decode cL_classes 476 = .ok (.iinc 13 1, 3) := by decide +kernel
theorem dL_classes_479 : decode cL_classes 479 = .ok (.goto (-54), 3) := by decide +kernel
theorem dL_classes_482 : decode cL_classes 482 = .ok (.aload_n 0, 1) := by decide +kernel
theorem dL_classes_483 : decode cL_classes 483 = .ok (.aload_n 3, 1) := by decide +kernel
theorem dL_classes_484 : decode cL_classes 484 = .ok (.invokestatic 87, 3) := by decide +kernel
theorem dL_classes_487 : decode cL_classes 487 = .ok (.aload_n 0, 1) := by decide +kernel
theorem dL_classes_488 : decode cL_classes 488 = .ok (.invokevirtual 42, 3) := by decide +kernel
theorem dL_classes_491 : decode cL_classes 491 = .ok (.iload 10, 2) := by decide +kernel
theorem dL_classes_493 : decode cL_classes 493 = .ok (.if_icmp .ne 20, 3) := by decide +kernel
theorem dL_classes_496 : decode cL_classes 496 = .ok (.aload_n 0, 1) := by decide +kernel
theorem dL_classes_497 : decode cL_classes 497 = .ok (.invokevirtual 45, 3) := by decide +kernel
theorem dL_classes_500 : decode cL_classes 500 = .ok (.iload 10, 2) := by decide +kernel
theorem dL_classes_502 : decode cL_classes 502 = .ok (.i2l, 1) := by decide +kernel
theorem dL_classes_503 : decode cL_classes 503 = .ok (.lrem, 1) := by decide +kernel
theorem dL_classes_504 : decode cL_classes 504 = .ok (.lconst 0, 1) := by decide +kernel
theorem dL_classes_505 : decode cL_classes 505 = .ok (.lcmp, 1) := by decide +kernel
theorem dL_classes_506 : decode cL_classes 506 = .ok (.ifCond .ne 7, 3) := by decide +kernel
theorem dL_classes_509 : decode cL_classes 509 = .ok (.iconst 1, 1) := by decide +kernel
theorem dL_classes_510 : decode cL_classes 510 = .ok (.goto 4, 3) := by decide +kernel
theorem dL_classes_513 : decode cL_classes 513 = .ok (.iconst 0, 1) := by decide +kernel
theorem dL_classes_514 : decode cL_classes 514 = .ok (.ireturn, 1) := by decide +kernel
theorem dL_sumOf_0 : decode cL_sumOf 0 = .ok (.iconst 0, 1) := by decide +kernel
theorem dL_sumOf_1 : decode cL_sumOf 1 = .ok (.istore_n 1, 1) := by decide +kernel
theorem dL_sumOf_2 : decode cL_sumOf 2 = .ok (.iconst 0, 1) := by decide +kernel
theorem dL_sumOf_3 : decode cL_sumOf 3 = .ok (.istore_n 2, 1) := by decide +kernel
theorem dL_sumOf_4 : decode cL_sumOf 4 = .ok (.iload_n 2, 1) := by decide +kernel
theorem dL_sumOf_5 : decode cL_sumOf 5 = .ok (.bipush 8, 2) := by decide +kernel
theorem dL_sumOf_7 : decode cL_sumOf 7 = .ok (.if_icmp .ge 15, 3) := by decide +kernel
theorem dL_sumOf_10 : decode cL_sumOf 10 = .ok (.iload_n 1, 1) := by decide +kernel
theorem dL_sumOf_11 : decode cL_sumOf 11 = .ok (.aload_n 0, 1) := by decide +kernel
theorem dL_sumOf_12 : decode cL_sumOf 12 = .ok (.iload_n 2, 1) := by decide +kernel
theorem dL_sumOf_13 : decode cL_sumOf 13 = .ok (.iaload, 1) := by decide +kernel
theorem dL_sumOf_14 : decode cL_sumOf 14 = .ok (.iadd, 1) := by decide +kernel
theorem dL_sumOf_15 : decode cL_sumOf 15 = .ok (.istore_n 1, 1) := by decide +kernel
theorem dL_sumOf_16 : decode cL_sumOf 16 = .ok (.iinc 2 1, 3) := by decide +kernel
theorem dL_sumOf_19 : decode cL_sumOf 19 = .ok (.goto (-15), 3) := by decide +kernel
theorem dL_sumOf_22 : decode cL_sumOf 22 = .ok (.iload_n 1, 1) := by decide +kernel
theorem dL_sumOf_23 : decode cL_sumOf 23 = .ok (.ireturn, 1) := by decide +kernel
theorem dL_group_0 : decode cL_group 0 = .ok (.aload_n 0, 1) := by decide +kernel
theorem dL_group_1 : decode cL_group 1 = .ok (.invokevirtual 45, 3) := by decide +kernel
theorem dL_group_4 : decode cL_group 4 = .ok (.lstore_n 1, 1) := by decide +kernel
theorem dL_group_5 : decode cL_group 5 = .ok (.lconst 1, 1) := by decide +kernel
theorem dL_group_6 : decode cL_group 6 = .ok (.lstore_n 3, 1) := by decide +kernel
theorem dL_group_7 : decode cL_group 7 = .ok (.aload_n 0, 1) := by decide +kernel
theorem dL_group_8 : decode cL_group 8 = .ok (.iconst (-1), 1) := by decide +kernel
theorem dL_group_9 : decode cL_group 9 = .ok (.invokevirtual 52, 3) := by decide +kernel
theorem dL_group_12 : decode cL_group 12 = .ok (.lstore 5, 2) := by decide +kernel
theorem dL_group_14 : decode cL_group 14 = .ok (.iconst 0, 1) := by decide +kernel
theorem dL_group_15 : decode cL_group 15 = .ok (.istore 7, 2) := by decide +kernel
theorem dL_group_17 : decode cL_group 17 = .ok (.iload 7, 2) := by decide +kernel
theorem dL_group_19 : decode cL_group 19 = .ok (.i2l, 1) := by decide +kernel
theorem dL_group_20 : decode cL_group 20 = .ok (.lload 5, 2) := by decide +kernel
theorem dL_group_22 : decode cL_group 22 = .ok (.lcmp, 1) := by decide +kernel
theorem dL_group_23 : decode cL_group 23 = .ok (.ifCond .ge 54, 3) := by decide +kernel
theorem dL_group_26 : decode cL_group 26 = .ok (.aload_n 0, 1) := by decide +kernel
theorem dL_group_27 : decode cL_group 27 = .ok (.iload 7, 2) := by decide +kernel
theorem dL_group_29 : decode cL_group 29 = .ok (.invokevirtual 52, 3) := by decide +kernel
theorem dL_group_32 : decode cL_group 32 = .ok (.lstore 8, 2) := by decide +kernel
theorem dL_group_34 : decode cL_group 34 = .ok (.lload 8, 2) := by decide +kernel
theorem dL_group_36 : decode cL_group 36 = .ok (.ldc2_w 106, 3) := by decide +kernel
theorem dL_group_39 : decode cL_group 39 = .ok (.lcmp, 1) := by decide +kernel
theorem dL_group_40 : decode cL_group 40 = .ok (.ifCond .lt 24, 3) := by decide +kernel
theorem dL_group_43 : decode cL_group 43 = .ok (.iload 7, 2) := by decide +kernel
theorem dL_group_45 : decode cL_group 45 = .ok (.ifCond .le 21, 3) := by decide +kernel
theorem dL_group_48 : decode cL_group 48 = .ok (.lload 8, 2) := by decide +kernel
theorem dL_group_50 : decode cL_group 50 = .ok (.aload_n 0, 1) := by decide +kernel
theorem dL_group_51 : decode cL_group 51 = .ok (.iload 7, 2) := by decide +kernel
theorem dL_group_53 : decode cL_group 53 = .ok (.iconst 1, 1) := by decide +kernel
theorem dL_group_54 : decode cL_group 54 = .ok (.isub, 1) := by decide +kernel
theorem dL_group_55 : decode cL_group 55 = .ok (.invokevirtual 52, 3) := by decide +kernel
theorem dL_group_58 : decode cL_group 58 = .ok (.lrem, 1) := by decide +kernel
theorem dL_group_59 : decode cL_group 59 = .ok (.lconst 0, 1) := by decide +kernel
theorem dL_group_60 : decode cL_group 60 = .ok (.lcmp, 1) := by decide +kernel
theorem dL_group_61 : decode cL_group 61 = .ok (.ifCond .eq 5, 3) := by decide +kernel
theorem dL_group_64 : decode cL_group 64 = .ok (.iconst 0, 1) := by decide +kernel
theorem dL_group_65 : decode cL_group 65 = .ok (.ireturn, 1) := by decide +kernel
theorem dL_group_66 : decode cL_group 66 = .ok (.lload_n 3, 1) := by decide +kernel
theorem dL_group_67 : decode cL_group 67 = .ok (.lload 8, 2) := by decide +kernel
theorem dL_group_69 : decode cL_group 69 = .ok (.lmul, 1) := by decide +kernel
theorem dL_group_70 : decode cL_group 70 = .ok (.lstore_n 3, 1) := by decide +kernel
theorem dL_group_71 : decode cL_group 71 = .ok (.iinc 7 1, 3) := by decide +kernel
theorem dL_group_74 : decode cL_group 74 = .ok (.goto (-57), 3) := by decide +kernel
theorem dL_group_77 : decode cL_group 77 = .ok (.lconst 0, 1) := by decide +kernel
theorem dL_group_78 : decode cL_group 78 = .ok (.lstore 7, 2) := by decide +kernel
theorem dL_group_80 : decode cL_group 80 = .ok (.aload_n 0, 1) := by decide +kernel
theorem dL_group_81 : decode cL_group 81 = .ok (.iconst 1, 1) := by decide +kernel
theorem dL_group_82 : decode cL_group 82 = .ok (.invokevirtual 9, 3) := by decide +kernel
theorem dL_group_85 : decode cL_group 85 = .ok (.istore 9, 2) := by decide +kernel
theorem dL_group_87 : decode cL_group 87 = .ok (.iconst 0, 1) := by decide +kernel
theorem dL_group_88 : decode cL_group 88 = .ok (.istore 10, 2) := by decide +kernel
theorem dL_group_90 : decode cL_group 90 = .ok (.iload 10, 2) := by decide +kernel
theorem dL_group_92 : decode cL_group 92 = .ok (.iload 9, 2) := by decide +kernel
theorem dL_group_94 : decode cL_group 94 = .ok (.if_icmp .gt 21, 3) := by decide +kernel
theorem dL_group_97 : decode cL_group 97 = .ok (.lload 7, 2) := by decide +kernel
theorem dL_group_99 : decode cL_group 99 = .ok (.aload_n 0, 1) := by decide +kernel
theorem dL_group_100 : decode cL_group 100 = .ok (.iload 10, 2) := by decide +kernel
theorem dL_group_102 : decode cL_group 102 = .ok (.invokevirtual 58, 3) := by decide +kernel
theorem dL_group_105 : decode cL_group 105 = .ok (.i2l, 1) := by decide +kernel
theorem dL_group_106 : decode cL_group 106 = .ok (.ladd, 1) := by decide +kernel
theorem dL_group_107 : decode cL_group 107 = .ok (.lstore 7, 2) := by decide +kernel
theorem dL_group_109 : decode cL_group 109 = .ok (.iinc 10 1, 3) := by decide +kernel
theorem dL_group_112 : decode cL_group 112 = .ok (.goto (-22), 3) := by decide +kernel
theorem dL_group_115 : decode cL_group 115 = .ok (.lload_n 3, 1) := by decide +kernel
theorem dL_group_116 : decode cL_group 116 = .ok (.lload_n 1, 1) := by decide +kernel
theorem dL_group_117 : decode cL_group 117 = .ok (.lcmp, 1) := by decide +kernel
theorem dL_group_118 : decode cL_group 118 = .ok (.ifCond .ne 64, 3) := by decide +kernel
theorem dL_group_121 : decode cL_group 121 = .ok (.lload 7, 2) := by decide +kernel
theorem dL_group_123 : decode cL_group 123 = .ok (.lload_n 1, 1) := by decide +kernel
theorem dL_group_124 : decode cL_group 124 = .ok (.lcmp, 1) := by decide +kernel
theorem dL_group_125 : decode cL_group 125 = .ok (.ifCond .ne 57, 3) := by decide +kernel
theorem dL_group_128 : decode cL_group 128 = .ok (.aload_n 0, 1) := by decide +kernel
theorem dL_group_129 : decode cL_group 129 = .ok (.iconst 0, 1) := by decide +kernel
theorem dL_group_130 : decode cL_group 130 = .ok (.invokevirtual 58, 3) := by decide +kernel
theorem dL_group_133 : decode cL_group 133 = .ok (.iconst 1, 1) := by decide +kernel
theorem dL_group_134 : decode cL_group 134 = .ok (.if_icmp .lt 48, 3) := by decide +kernel
theorem dL_group_137 : decode cL_group 137 = .ok (.aload_n 0, 1) := by decide +kernel
theorem dL_group_138 : decode cL_group 138 = .ok (.iload 9, 2) := by decide +kernel
theorem dL_group_140 : decode cL_group 140 = .ok (.iconst 1, 1) := by decide +kernel
theorem dL_group_141 : decode cL_group 141 = .ok (.iadd, 1) := by decide +kernel
theorem dL_group_142 : decode cL_group 142 = .ok (.invokevirtual 58, 3) := by decide +kernel
theorem dL_group_145 : decode cL_group 145 = .ok (.ifCond .ne 37, 3) := by decide +kernel
theorem dL_group_148 : decode cL_group 148 = .ok (.aload_n 0, 1) := by decide +kernel
theorem dL_group_149 : decode cL_group 149 = .ok (.iconst (-1), 1) := by decide +kernel
theorem dL_group_150 : decode cL_group 150 = .ok (.invokevirtual 58, 3) := by decide +kernel
theorem dL_group_153 : decode cL_group 153 = .ok (.sipush (-10002), 3) := by decide +kernel
theorem dL_group_156 : decode cL_group 156 = .ok (.if_icmp .ne 26, 3) := by decide +kernel
theorem dL_group_159 : decode cL_group 159 = .ok (.aload_n 0, 1) := by decide +kernel
theorem dL_group_160 : decode cL_group 160 = .ok (.lload 5, 2) := by decide +kernel
theorem dL_group_162 : decode cL_group 162 = .ok (.l2i, 1) := by decide +kernel
theorem dL_group_163 : decode cL_group 163 = .ok (.invokevirtual 52, 3) := by decide +kernel
theorem dL_group_166 : decode cL_group 166 = .ok (.lconst 0, 1) := by decide +kernel
theorem dL_group_167 : decode cL_group 167 = .ok (.lcmp, 1) := by decide +kernel
theorem dL_group_168 : decode cL_group 168 = .ok (.ifCond .gt 14, 3) := by decide +kernel
theorem dL_group_171 : decode cL_group 171 = .ok (.aload_n 0, 1) := by decide +kernel
theorem dL_group_172 : decode cL_group 172 = .ok (.bipush (-2), 2) := by decide +kernel
theorem dL_group_174 : decode cL_group 174 = .ok (.invokevirtual 52, 3) := by decide +kernel
theorem dL_group_177 : decode cL_group 177 = .ok (.lconst 0, 1) := by decide +kernel
theorem dL_group_178 : decode cL_group 178 = .ok (.lcmp, 1) := by decide +kernel
theorem dL_group_179 : decode cL_group 179 = .ok (.ifCond .le 5, 3) := by decide +kernel
theorem dL_group_182 : decode cL_group 182 = .ok (.iconst 0, 1) := by decide +kernel
theorem dL_group_183 : decode cL_group 183 = .ok (.ireturn, 1) := by decide +kernel
theorem dL_group_184 : decode cL_group 184 = .ok (.iconst (-1), 1) := by decide +kernel
theorem dL_group_185 : decode cL_group 185 = .ok (.istore 10, 2) := by decide +kernel
theorem dL_group_187 : decode cL_group 187 = .ok (.iconst 0, 1) := by decide +kernel
theorem dL_group_188 : decode cL_group 188 = .ok (.istore 11, 2) := by decide +kernel
theorem dL_group_190 : decode cL_group 190 = .ok (.iload 11, 2) := by decide +kernel
theorem dL_group_192 : decode cL_group 192 = .ok (.i2l, 1) := by decide +kernel
theorem dL_group_193 : decode cL_group 193 = .ok (.lload_n 1, 1) := by decide +kernel
theorem dL_group_194 : decode cL_group 194 = .ok (.lcmp, 1) := by decide +kernel
theorem dL_group_195 : decode cL_group 195 = .ok (.ifCond .ge 71, 3) := by decide +kernel
theorem dL_group_198 : decode cL_group 198 = .ok (.iload 11, 2) := by decide +kernel
theorem dL_group_200 : decode cL_group 200 = .ok (.bipush 12, 2) := by decide +kernel
theorem dL_group_202 : decode cL_group 202 = .ok (.if_icmp .ge 64, 3) := by decide +kernel
theorem dL_group_205 : decode cL_group 205 = .ok (.aload_n 0, 1) := by decide +kernel
theorem dL_group_206 : decode cL_group 206 = .ok (.iload 11, 2) := by decide +kernel
theorem dL_group_208 : decode cL_group 208 = .ok (.invokevirtual 108, 3) := by decide +kernel
theorem dL_group_211 : decode cL_group 211 = .ok (.istore 12, 2) := by decide +kernel
theorem dL_group_213 : decode cL_group 213 = .ok (.iload 12, 2) := by decide +kernel
theorem dL_group_215 : decode cL_group 215 = .ok (.iload 10, 2) := by decide +kernel
theorem dL_group_217 : decode cL_group 217 = .ok (.if_icmp .le 37, 3) := by decide +kernel
theorem dL_group_220 : decode cL_group 220 = .ok (.aload_n 0, 1) := by decide +kernel
theorem dL_group_221 : decode cL_group 221 = .ok (.iload 12, 2) := by decide +kernel
theorem dL_group_223 : decode cL_group 223 = .ok (.invokevirtual 93, 3) := by decide +kernel
theorem dL_group_226 : decode cL_group 226 = .ok (.ifCond .lt 28, 3) := by decide +kernel
theorem dL_group_229 : decode cL_group 229 = .ok (.aload_n 0, 1) := by decide +kernel
theorem dL_group_230 : decode cL_group 230 = .ok (.invokevirtual 49, 3) := by decide +kernel
theorem dL_group_233 : decode cL_group 233 = .ok (.iconst 2, 1) := by decide +kernel
theorem dL_group_234 : decode cL_group 234 = .ok (.iand, 1) := by decide +kernel
theorem dL_group_235 : decode cL_group 235 = .ok (.ifCond .eq 19, 3) := by decide +kernel
theorem dL_group_238 : decode cL_group 238 = .ok (.aload_n 0, 1) := by decide +kernel
theorem dL_group_239 : decode cL_group 239 = .ok (.invokevirtual 61, 3) := by decide +kernel
theorem dL_group_242 : decode cL_group 242 = .ok (.iload 12, 2) := by decide +kernel
theorem dL_group_244 : decode cL_group 244 = .ok (.if_icmp .ne 10, 3) := by decide +kernel
theorem dL_group_247 : decode cL_group 247 = .ok (.aload_n 0, 1) := by decide +kernel
theorem dL_group_248 : decode cL_group 248 = .ok (.invokevirtual 90, 3) := by decide +kernel
theorem dL_group_251 : decode cL_group 251 = .ok (.ifCond .ge 5, 3) := by decide +kernel
theorem dL_group_254 : decode cL_group 254 = .ok (.iconst 0, 1) := by decide +kernel
theorem dL_group_255 : decode cL_group 255 = .ok (.ireturn, 1) := by decide +kernel
theorem dL_group_256 : decode cL_group 256 = .ok (.iload 12, 2) := by decide +kernel
theorem dL_group_258 : decode cL_group 258 = .ok (.istore 10, 2) := by decide +kernel
theorem dL_group_260 : decode cL_group 260 = .ok (.iinc 11 1, 3) := by decide +kernel
theorem dL_group_263 : decode cL_group 263 = .ok (.goto (-73), 3) := by decide +kernel
theorem dL_group_266 : decode cL_group 266 = .ok (.lload_n 1, 1) := by decide +kernel
theorem dL_group_267 : decode cL_group 267 = .ok (.ldc2_w 111, 3) := by decide +kernel
theorem dL_group_270 : decode cL_group 270 = .ok (.lcmp, 1) := by decide +kernel
theorem dL_group_271 : decode cL_group 271 = .ok (.ifCond .gt 37, 3) := by decide +kernel
theorem dL_group_274 : decode cL_group 274 = .ok (.aload_n 0, 1) := by decide +kernel
theorem dL_group_275 : decode cL_group 275 = .ok (.lload_n 1, 1) := by decide +kernel
theorem dL_group_276 : decode cL_group 276 = .ok (.l2i, 1) := by decide +kernel
theorem dL_group_277 : decode cL_group 277 = .ok (.invokevirtual 108, 3) := by decide +kernel
theorem dL_group_280 : decode cL_group 280 = .ok (.sipush (-10007), 3) := by decide +kernel
theorem dL_group_283 : decode cL_group 283 = .ok (.if_icmp .ne 29, 3) := by decide +kernel
theorem dL_group_286 : decode cL_group 286 = .ok (.aload_n 0, 1) := by decide +kernel
theorem dL_group_287 : decode cL_group 287 = .ok (.lload_n 1, 1) := by decide +kernel
theorem dL_group_288 : decode cL_group 288 = .ok (.l2i, 1) := by decide +kernel
theorem dL_group_289 : decode cL_group 289 = .ok (.iconst 1, 1) := by decide +kernel
theorem dL_group_290 : decode cL_group 290 = .ok (.isub, 1) := by decide +kernel
theorem dL_group_291 : decode cL_group 291 = .ok (.invokevirtual 108, 3) := by decide +kernel
theorem dL_group_294 : decode cL_group 294 = .ok (.ifCond .le 18, 3) := by decide +kernel
theorem dL_group_297 : decode cL_group 297 = .ok (.aload_n 0, 1) := by decide +kernel
theorem dL_group_298 : decode cL_group 298 = .ok (.iconst (-1), 1) := by decide +kernel
theorem dL_group_299 : decode cL_group 299 = .ok (.invokevirtual 108, 3) := by decide +kernel
theorem dL_group_302 : decode cL_group 302 = .ok (.sipush (-10002), 3) := by decide +kernel
theorem dL_group_305 : decode cL_group 305 = .ok (.if_icmp .ne 7, 3) := by decide +kernel
theorem dL_group_308 : decode cL_group 308 = .ok (.iconst 1, 1) := by decide +kernel
theorem dL_group_309 : decode cL_group 309 = .ok (.goto 4, 3) := by decide +kernel
theorem dL_group_312 : decode cL_group 312 = .ok (.iconst 0, 1) := by decide +kernel
theorem dL_group_313 : decode cL_group 313 = .ok (.ireturn, 1) := by decide +kernel
theorem dL_burning_0 : decode cL_burning 0 = .ok (.aload_n 0, 1) := by decide +kernel
theorem dL_burning_1 : decode cL_burning 1 = .ok (.iconst 0, 1) := by decide +kernel
theorem dL_burning_2 : decode cL_burning 2 = .ok (.invokevirtual 9, 3) := by decide +kernel
theorem dL_burning_5 : decode cL_burning 5 = .ok (.istore_n 1, 1) := by decide +kernel
theorem dL_burning_6 : decode cL_burning 6 = .ok (.aload_n 0, 1) := by decide +kernel
theorem dL_burning_7 : decode cL_burning 7 = .ok (.iconst 2, 1) := by decide +kernel
theorem dL_burning_8 : decode cL_burning 8 = .ok (.invokevirtual 9, 3) := by decide +kernel
theorem dL_burning_11 : decode cL_burning 11 = .ok (.istore_n 2, 1) := by decide +kernel
theorem dL_burning_12 : decode cL_burning 12 = .ok (.iconst 1, 1) := by decide +kernel
theorem dL_burning_13 : decode cL_burning 13 = .ok (.istore_n 3, 1) := by decide +kernel
theorem dL_burning_14 : decode cL_burning 14 = .ok (.iconst 0, 1) := by decide +kernel
theorem dL_burning_15 : decode cL_burning 15 = .ok (.istore 4, 2) := by decide +kernel
theorem dL_burning_17 : decode cL_burning 17 = .ok (.iload 4, 2) := by decide +kernel
theorem dL_burning_19 : decode cL_burning 19 = .ok (.iload_n 1, 1) := by decide +kernel
theorem dL_burning_20 : decode cL_burning 20 = .ok (.if_icmp .ge 217, 3) := by decide +kernel
theorem dL_burning_23 : decode cL_burning 23 = .ok (.aload_n 0, 1) := by decide +kernel
theorem dL_burning_24 : decode cL_burning 24 = .ok (.iload 4, 2) := by decide +kernel
theorem dL_burning_26 : decode cL_burning 26 = .ok (.invokevirtual 113, 3) := by decide +kernel
theorem dL_burning_29 : decode cL_burning 29 = .ok (.istore 5, 2) := by decide +kernel
theorem dL_burning_31 : decode cL_burning 31 = .ok (.iload_n 3, 1) := by decide +kernel
theorem dL_burning_32 : decode cL_burning 32 = .ok (.ifCond .eq 12, 3) := by decide +kernel
theorem dL_burning_35 : decode cL_burning 35 = .ok (.iload 5, 2) := by decide +kernel
theorem dL_burning_37 : decode cL_burning 37 = .ok (.ifCond .lt 7, 3) := by decide +kernel
theorem dL_burning_40 : decode cL_burning 40 = .ok (.iconst 1, 1) := by decide +kernel
theorem dL_burning_41 : decode cL_burning 41 = .ok (.goto 4, 3) := by decide +kernel
theorem dL_burning_44 : decode cL_burning 44 = .ok (.iconst 0, 1) := by decide +kernel
theorem dL_burning_45 : decode cL_burning 45 = .ok (.istore_n 3, 1) := by decide +kernel
theorem dL_burning_46 : decode cL_burning 46 = .ok (.iconst 0, 1) := by decide +kernel
theorem dL_burning_47 : decode cL_burning 47 = .ok (.istore 6, 2) := by decide +kernel
theorem dL_burning_49 : decode cL_burning 49 = .ok (.iconst 0, 1) := by decide +kernel
theorem dL_burning_50 : decode cL_burning 50 = .ok (.istore 7, 2) := by decide +kernel
theorem dL_burning_52 : decode cL_burning 52 = .ok (.iconst 0, 1) := by decide +kernel
theorem dL_burning_53 : decode cL_burning 53 = .ok (.istore 8, 2) := by decide +kernel
theorem dL_burning_55 : decode cL_burning 55 = .ok (.iload 8, 2) := by decide +kernel
theorem dL_burning_57 : decode cL_burning 57 = .ok (.iload_n 1, 1) := by decide +kernel
theorem dL_burning_58 : decode cL_burning 58 = .ok (.if_icmp .ge 82, 3) := by decide +kernel
theorem dL_burning_61 : decode cL_burning 61 = .ok (.aload_n 0, 1) := by decide +kernel
theorem dL_burning_62 : decode cL_burning 62 = .ok (.iload 8, 2) := by decide +kernel
theorem dL_burning_64 : decode cL_burning 64 = .ok (.invokevirtual 113, 3) := by decide +kernel
theorem dL_burning_67 : decode cL_burning 67 = .ok (.istore 9, 2) := by decide +kernel
theorem dL_burning_69 : decode cL_burning 69 = .ok (.iload 6, 2) := by decide +kernel
theorem dL_burning_71 : decode cL_burning 71 = .ok (.iload 9, 2) := by decide +kernel
theorem dL_burning_73 : decode cL_burning 73 = .ok (.ifCond .lt 26, 3) := by decide +kernel
theorem dL_burning_76 : decode cL_burning 76 = .ok (.iload 5, 2) := by decide +kernel
theorem dL_burning_78 : decode cL_burning 78 = .ok (.ifCond .lt 10, 3) := by decide +kernel
theorem dL_burning_81 : decode cL_burning 81 = .ok (.iload 9, 2) := by decide +kernel
theorem dL_burning_83 : decode cL_burning 83 = .ok (.iload 5, 2) := by decide +kernel
theorem dL_burning_85 : decode cL_burning 85 = .ok (.if_icmp .ge 14, 3) := by decide +kernel
theorem dL_burning_88 : decode cL_burning 88 = .ok (.aload_n 0, 1) := by decide +kernel
theorem dL_burning_89 : decode cL_burning 89 = .ok (.iload 4, 2) := by decide +kernel
theorem dL_burning_91 : decode cL_burning 91 = .ok (.iload 8, 2) := by decide +kernel
theorem dL_burning_93 : decode cL_burning 93 = .ok (.invokestatic 70, 3) := by decide +kernel
theorem dL_burning_96 : decode cL_burning 96 = .ok (.goto 4, 3) := by decide +kernel
theorem dL_burning_99 : decode cL_burning 99 = .ok (.iconst 0, 1) := by decide +kernel
theorem dL_burning_100 : decode cL_burning 100 = .ok (.iadd, 1) := by decide +kernel
theorem dL_burning_101 : decode cL_burning 101 = .ok (.istore 6, 2) := by decide +kernel
theorem dL_burning_103 : decode cL_burning 103 = .ok (.iload 7, 2) := by decide +kernel
theorem dL_burning_105 : decode cL_burning 105 = .ok (.iload 9, 2) := by decide +kernel
theorem dL_burning_107 : decode cL_burning 107 = .ok (.ifCond .lt 23, 3) := by decide +kernel
theorem dL_burning_110 : decode cL_burning 110 = .ok (.iload 9, 2) := by decide +kernel
theorem dL_burning_112 : decode cL_burning 112 = .ok (.iload 5, 2) := by decide +kernel
theorem dL_burning_114 : decode cL_burning 114 = .ok (.iconst 1, 1) := by decide +kernel
theorem dL_burning_115 : decode cL_burning 115 = .ok (.isub, 1) := by decide +kernel
theorem dL_burning_116 : decode cL_burning 116 = .ok (.if_icmp .ge 14, 3) := by decide +kernel
theorem dL_burning_119 : decode cL_burning 119 = .ok (.aload_n 0, 1) := by decide +kernel
theorem dL_burning_120 : decode cL_burning 120 = .ok (.iload 4, 2) := by decide +kernel
theorem dL_burning_122 : decode cL_burning 122 = .ok (.iload 8, 2) := by decide +kernel
theorem dL_burning_124 : decode cL_burning 124 = .ok (.invokestatic 70, 3) := by decide +kernel
theorem dL_burning_127 : decode cL_burning 127 = .ok (.goto 4, 3) := by decide +kernel
theorem dL_burning_130 : decode cL_burning 130 = .ok (.iconst 0, 1) := by decide +kernel
theorem dL_burning_131 : decode cL_burning 131 = .ok (.iadd, 1) := by decide +kernel
theorem dL_burning_132 : decode cL_burning 132 = .ok (.istore 7, 2) := by decide +kernel
theorem dL_burning_134 : decode cL_burning 134 = .ok (.iinc 8 1, 3) := by decide +kernel
theorem dL_burning_137 : decode cL_burning 137 = .ok (.goto (-82), 3) := by decide +kernel
theorem dL_burning_140 : decode cL_burning 140 = .ok (.iload 4, 2) := by decide +kernel
theorem dL_burning_142 : decode cL_burning 142 = .ok (.iload_n 2, 1) := by decide +kernel
theorem dL_burning_143 : decode cL_burning 143 = .ok (.if_icmp .ne 10, 3) := by decide +kernel
theorem dL_burning_146 : decode cL_burning 146 = .ok (.iload 5, 2) := by decide +kernel
theorem dL_burning_148 : decode cL_burning 148 = .ok (.ifCond .eq 83, 3) := by decide +kernel
theorem dL_burning_151 : decode cL_burning 151 = .ok (.iconst 0, 1) := by decide +kernel
theorem dL_burning_152 : decode cL_burning 152 = .ok (.ireturn, 1) := by decide +kernel
theorem dL_burning_153 : decode cL_burning 153 = .ok (.iload 5, 2) := by decide +kernel
theorem dL_burning_155 : decode cL_burning 155 = .ok (.ifCond .ge 32, 3) := by decide +kernel
theorem dL_burning_158 : decode cL_burning 158 = .ok (.iload 5, 2) := by decide +kernel
theorem dL_burning_160 : decode cL_burning 160 = .ok (.sipush (-10007), 3) := by decide +kernel
theorem dL_burning_163 : decode cL_burning 163 = .ok (.if_icmp .ne 66, 3) := by decide +kernel
theorem dL_burning_166 : decode cL_burning 166 = .ok (.aload_n 0, 1) := by decide +kernel
theorem dL_burning_167 : decode cL_burning 167 = .ok (.iload 4, 2) := by decide +kernel
theorem dL_burning_169 : decode cL_burning 169 = .ok (.invokevirtual 19, 3) := by decide +kernel
theorem dL_burning_172 : decode cL_burning 172 = .ok (.iload 6, 2) := by decide +kernel
theorem dL_burning_174 : decode cL_burning 174 = .ok (.iadd, 1) := by decide +kernel
theorem dL_burning_175 : decode cL_burning 175 = .ok (.aload_n 0, 1) := by decide +kernel
theorem dL_burning_176 : decode cL_burning 176 = .ok (.iload 4, 2) := by decide +kernel
theorem dL_burning_178 : decode cL_burning 178 = .ok (.invokevirtual 67, 3) := by decide +kernel
theorem dL_burning_181 : decode cL_burning 181 = .ok (.if_icmp .lt 50, 3) := by decide +kernel
theorem dL_burning_184 : decode cL_burning 184 = .ok (.goto 45, 3) := by decide +kernel
theorem dL_burning_187 : decode cL_burning 187 = .ok (.aload_n 0, 1) := by decide +kernel
theorem dL_burning_188 : decode cL_burning 188 = .ok (.iload 4, 2) := by decide +kernel
theorem dL_burning_190 : decode cL_burning 190 = .ok (.invokevirtual 19, 3) := by decide +kernel
theorem dL_burning_193 : decode cL_burning 193 = .ok (.iload 6, 2) := by decide +kernel
theorem dL_burning_195 : decode cL_burning 195 = .ok (.iadd, 1) := by decide +kernel
theorem dL_burning_196 : decode cL_burning 196 = .ok (.aload_n 0, 1) := by decide +kernel
theorem dL_burning_197 : decode cL_burning 197 = .ok (.iload 4, 2) := by decide +kernel
theorem dL_burning_199 : decode cL_burning 199 = .ok (.invokevirtual 67, 3) := by decide +kernel
theorem dL_burning_202 : decode cL_burning 202 = .ok (.if_icmp .lt 27, 3) := by decide +kernel
theorem dL_burning_205 : decode cL_burning 205 = .ok (.iload 5, 2) := by decide +kernel
theorem dL_burning_207 : decode cL_burning 207 = .ok (.iconst 1, 1) := by decide +kernel
theorem dL_burning_208 : decode cL_burning 208 = .ok (.if_icmp .le 23, 3) := by decide +kernel
theorem dL_burning_211 : decode cL_burning 211 = .ok (.aload_n 0, 1) := by decide +kernel
theorem dL_burning_212 : decode cL_burning 212 = .ok (.iload 4, 2) := by decide +kernel
theorem dL_burning_214 : decode cL_burning 214 = .ok (.invokevirtual 19, 3) := by decide +kernel
theorem dL_burning_217 : decode cL_burning 217 = .ok (.iload 7, 2) := by decide +kernel
theorem dL_burning_219 : decode cL_burning 219 = .ok (.iadd, 1) := by decide +kernel
theorem dL_burning_220 : decode cL_burning 220 = .ok (.aload_n 0, 1) := by decide +kernel
theorem dL_burning_221 : decode cL_burning 221 = .ok (.iload 4, 2) := by decide +kernel
theorem dL_burning_223 : decode cL_burning 223 = .ok (.invokevirtual 67, 3) := by decide +kernel
theorem dL_burning_226 : decode cL_burning 226 = .ok (.if_icmp .lt 5, 3) := by decide +kernel
theorem dL_burning_229 : decode cL_burning 229 = .ok (.iconst 0, 1) := by decide +kernel
theorem dL_burning_230 : decode cL_burning 230 = .ok (.ireturn, 1) := by decide +kernel
theorem dL_burning_231 : decode cL_burning 231 = .ok (.iinc 4 1, 3) := by decide +kernel
theorem dL_burning_234 : decode cL_burning 234 = .ok (.goto (-217), 3) := by decide +kernel
theorem dL_burning_237 : decode cL_burning 237 = .ok (.aload_n 0, 1) := by decide +kernel
theorem dL_burning_238 : decode cL_burning 238 = .ok (.invokevirtual 49, 3) := by decide +kernel
theorem dL_burning_241 : decode cL_burning 241 = .ok (.iconst 2, 1) := by decide +kernel
theorem dL_burning_242 : decode cL_burning 242 = .ok (.iand, 1) := by decide +kernel
theorem dL_burning_243 : decode cL_burning 243 = .ok (.ifCond .le 7, 3) := by decide +kernel
theorem dL_burning_246 : decode cL_burning 246 = .ok (.iconst 1, 1) := by decide +kernel
theorem dL_burning_247 : decode cL_burning 247 = .ok (.goto 4, 3) := by decide +kernel
theorem dL_burning_250 : decode cL_burning 250 = .ok (.iconst 0, 1) := by decide +kernel
theorem dL_burning_251 : decode cL_burning 251 = .ok (.iload_n 3, 1) := by decide +kernel
theorem dL_burning_252 : decode cL_burning 252 = .ok (.ifCond .eq 26, 3) := by decide +kernel
theorem dL_burning_255 : decode cL_burning 255 = .ok (.aload_n 0, 1) := by decide +kernel
theorem dL_burning_256 : decode cL_burning 256 = .ok (.invokevirtual 49, 3) := by decide +kernel
theorem dL_burning_259 : decode cL_burning 259 = .ok (.iconst 1, 1) := by decide +kernel
theorem dL_burning_260 : decode cL_burning 260 = .ok (.iand, 1) := by decide +kernel
theorem dL_burning_261 : decode cL_burning 261 = .ok (.iconst 1, 1) := by decide +kernel
theorem dL_burning_262 : decode cL_burning 262 = .ok (.if_icmp .ne 16, 3) := by decide +kernel
theorem dL_burning_265 : decode cL_burning 265 = .ok (.aload_n 0, 1) := by decide +kernel
theorem dL_burning_266 : decode cL_burning 266 = .ok (.iconst 3, 1) := by decide +kernel
theorem dL_burning_267 : decode cL_burning 267 = .ok (.invokevirtual 9, 3) := by decide +kernel
theorem dL_burning_270 : decode cL_burning 270 = .ok (.iconst 1, 1) := by decide +kernel
theorem dL_burning_271 : decode cL_burning 271 = .ok (.if_icmp .ne 7, 3) := by decide +kernel
theorem dL_burning_274 : decode cL_burning 274 = .ok (.iconst 1, 1) := by decide +kernel
theorem dL_burning_275 : decode cL_burning 275 = .ok (.goto 4, 3) := by decide +kernel
theorem dL_burning_278 : decode cL_burning 278 = .ok (.iconst 0, 1) := by decide +kernel
theorem dL_burning_279 : decode cL_burning 279 = .ok (.if_icmp .ne 7, 3) := by decide +kernel
theorem dL_burning_282 : decode cL_burning 282 = .ok (.iconst 1, 1) := by decide +kernel
theorem dL_burning_283 : decode cL_burning 283 = .ok (.goto 4, 3) := by decide +kernel
theorem dL_burning_286 : decode cL_burning 286 = .ok (.iconst 0, 1) := by decide +kernel
theorem dL_burning_287 : decode cL_burning 287 = .ok (.ireturn, 1) := by decide +kernel
theorem dL_errors_0 : decode cL_errors 0 = .ok (.aload_n 0, 1) := by decide +kernel
theorem dL_errors_1 : decode cL_errors 1 = .ok (.iconst 0, 1) := by decide +kernel
theorem dL_errors_2 : decode cL_errors 2 = .ok (.invokevirtual 9, 3) := by decide +kernel
theorem dL_errors_5 : decode cL_errors 5 = .ok (.istore_n 1, 1) := by decide +kernel
theorem dL_errors_6 : decode cL_errors 6 = .ok (.aload_n 0, 1) := by decide +kernel
theorem dL_errors_7 : decode cL_errors 7 = .ok (.iconst 2, 1) := by decide +kernel
theorem dL_errors_8 : decode cL_errors 8 = .ok (.invokevirtual 9, 3) := by decide +kernel
theorem dL_errors_11 : decode cL_errors 11 = .ok (.istore_n 2, 1) := by decide +kernel
theorem dL_errors_12 : decode cL_errors 12 = .ok (.sipush (-10001), 3) := by decide +kernel
theorem dL_errors_15 : decode cL_errors 15 = .ok (.istore_n 3, 1) := by decide +kernel
theorem dL_errors_16 : decode cL_errors 16 = .ok (.sipush (-10002), 3) := by decide +kernel
theorem dL_errors_19 : decode cL_errors 19 = .ok (.istore 4, 2) := by decide +kernel
theorem dL_errors_21 : decode cL_errors 21 = .ok (.aload_n 0, 1) := by decide +kernel
theorem dL_errors_22 : decode cL_errors 22 = .ok (.iconst 1, 1) := by decide +kernel
theorem dL_errors_23 : decode cL_errors 23 = .ok (.invokevirtual 116, 3) := by decide +kernel
theorem dL_errors_26 : decode cL_errors 26 = .ok (.iload 4, 2) := by decide +kernel
theorem dL_errors_28 : decode cL_errors 28 = .ok (.if_icmp .ne 147, 3) := by decide +kernel
theorem dL_errors_31 : decode cL_errors 31 = .ok (.aload_n 0, 1) := by decide +kernel
theorem dL_errors_32 : decode cL_errors 32 = .ok (.bipush 9, 2) := by decide +kernel
theorem dL_errors_34 : decode cL_errors 34 = .ok (.invokevirtual 116, 3) := by decide +kernel
theorem dL_errors_37 : decode cL_errors 37 = .ok (.iload 4, 2) := by decide +kernel
theorem dL_errors_39 : decode cL_errors 39 = .ok (.if_icmp .ne 136, 3) := by decide +kernel
theorem dL_errors_42 : decode cL_errors 42 = .ok (.aload_n 0, 1) := by decide +kernel
theorem dL_errors_43 : decode cL_errors 43 = .ok (.iconst 0, 1) := by decide +kernel
theorem dL_errors_44 : decode cL_errors 44 = .ok (.iload_n 1, 1) := by decide +kernel
theorem dL_errors_45 : decode cL_errors 45 = .ok (.invokevirtual 119, 3) := by decide +kernel
theorem dL_errors_48 : decode cL_errors 48 = .ok (.iload_n 3, 1) := by decide +kernel
theorem dL_errors_49 : decode cL_errors 49 = .ok (.if_icmp .ne 126, 3) := by decide +kernel
theorem dL_errors_52 : decode cL_errors 52 = .ok (.aload_n 0, 1) := by decide +kernel
theorem dL_errors_53 : decode cL_errors 53 = .ok (.iconst 0, 1) := by decide +kernel
theorem dL_errors_54 : decode cL_errors 54 = .ok (.iconst 0, 1) := by decide +kernel
theorem dL_errors_55 : decode cL_errors 55 = .ok (.invokevirtual 119, 3) := by decide +kernel
theorem dL_errors_58 : decode cL_errors 58 = .ok (.iload 4, 2) := by decide +kernel
theorem dL_errors_60 : decode cL_errors 60 = .ok (.if_icmp .ne 115, 3) := by decide +kernel
theorem dL_errors_63 : decode cL_errors 63 = .ok (.aload_n 0, 1) := by decide +kernel
theorem dL_errors_64 : decode cL_errors 64 = .ok (.aload_n 0, 1) := by decide +kernel
theorem dL_errors_65 : decode cL_errors 65 = .ok (.iconst 1, 1) := by decide +kernel
theorem dL_errors_66 : decode cL_errors 66 = .ok (.invokevirtual 9, 3) := by decide +kernel
theorem dL_errors_69 : decode cL_errors 69 = .ok (.invokevirtual 122, 3) := by decide +kernel
theorem dL_errors_72 : decode cL_errors 72 = .ok (.iload_n 3, 1) := by decide +kernel
theorem dL_errors_73 : decode cL_errors 73 = .ok (.if_icmp .ne 102, 3) := by decide +kernel
theorem dL_errors_76 : decode cL_errors 76 = .ok (.aload_n 0, 1) := by decide +kernel
theorem dL_errors_77 : decode cL_errors 77 = .ok (.iload_n 1, 1) := by decide +kernel
theorem dL_errors_78 : decode cL_errors 78 = .ok (.invokevirtual 125, 3) := by decide +kernel
theorem dL_errors_81 : decode cL_errors 81 = .ok (.iload_n 3, 1) := by decide +kernel
theorem dL_errors_82 : decode cL_errors 82 = .ok (.if_icmp .ne 93, 3) := by decide +kernel
theorem dL_errors_85 : decode cL_errors 85 = .ok (.aload_n 0, 1) := by decide +kernel
theorem dL_errors_86 : decode cL_errors 86 = .ok (.bipush 7, 2) := by decide +kernel
theorem dL_errors_88 : decode cL_errors 88 = .ok (.invokevirtual 9, 3) := by decide +kernel
theorem dL_errors_91 : decode cL_errors 91 = .ok (.iload 4, 2) := by decide +kernel
theorem dL_errors_93 : decode cL_errors 93 = .ok (.if_icmp .ne 82, 3) := by decide +kernel
theorem dL_errors_96 : decode cL_errors 96 = .ok (.aload_n 0, 1) := by decide +kernel
theorem dL_errors_97 : decode cL_errors 97 = .ok (.iload_n 1, 1) := by decide +kernel
theorem dL_errors_98 : decode cL_errors 98 = .ok (.invokevirtual 67, 3) := by decide +kernel
theorem dL_errors_101 : decode cL_errors 101 = .ok (.iload_n 3, 1) := by decide +kernel
theorem dL_errors_102 : decode cL_errors 102 = .ok (.if_icmp .ne 73, 3) := by decide +kernel
theorem dL_errors_105 : decode cL_errors 105 = .ok (.aload_n 0, 1) := by decide +kernel
theorem dL_errors_106 : decode cL_errors 106 = .ok (.iconst (-1), 1) := by decide +kernel
theorem dL_errors_107 : decode cL_errors 107 = .ok (.iconst 1, 1) := by decide +kernel
theorem dL_errors_108 : decode cL_errors 108 = .ok (.invokevirtual 15, 3) := by decide +kernel
theorem dL_errors_111 : decode cL_errors 111 = .ok (.iload_n 3, 1) := by decide +kernel
theorem dL_errors_112 : decode cL_errors 112 = .ok (.if_icmp .ne 63, 3) := by decide +kernel
theorem dL_errors_115 : decode cL_errors 115 = .ok (.aload_n 0, 1) := by decide +kernel
theorem dL_errors_116 : decode cL_errors 116 = .ok (.iload_n 2, 1) := by decide +kernel
theorem dL_errors_117 : decode cL_errors 117 = .ok (.iconst 0, 1) := by decide +kernel
theorem dL_errors_118 : decode cL_errors 118 = .ok (.invokevirtual 22, 3) := by decide +kernel
theorem dL_errors_121 : decode cL_errors 121 = .ok (.iload_n 3, 1) := by decide +kernel
theorem dL_errors_122 : decode cL_errors 122 = .ok (.if_icmp .ne 53, 3) := by decide +kernel
theorem dL_errors_125 : decode cL_errors 125 = .ok (.aload_n 0, 1) := by decide +kernel
theorem dL_errors_126 : decode cL_errors 126 = .ok (.iload_n 1, 1) := by decide +kernel
theorem dL_errors_127 : decode cL_errors 127 = .ok (.iconst 0, 1) := by decide +kernel
theorem dL_errors_128 : decode cL_errors 128 = .ok (.invokevirtual 22, 3) := by decide +kernel
theorem dL_errors_131 : decode cL_errors 131 = .ok (.iload_n 3, 1) := by decide +kernel
theorem dL_errors_132 : decode cL_errors 132 = .ok (.if_icmp .ne 43, 3) := by decide +kernel
theorem dL_errors_135 : decode cL_errors 135 = .ok (.aload_n 0, 1) := by decide +kernel
theorem dL_errors_136 : decode cL_errors 136 = .ok (.iload_n 2, 1) := by decide +kernel
theorem dL_errors_137 : decode cL_errors 137 = .ok (.invokevirtual 19, 3) := by decide +kernel
theorem dL_errors_140 : decode cL_errors 140 = .ok (.iload_n 3, 1) := by decide +kernel
theorem dL_errors_141 : decode cL_errors 141 = .ok (.if_icmp .ne 34, 3) := by decide +kernel
theorem dL_errors_144 : decode cL_errors 144 = .ok (.aload_n 0, 1) := by decide +kernel
theorem dL_errors_145 : decode cL_errors 145 = .ok (.iload_n 2, 1) := by decide +kernel
theorem dL_errors_146 : decode cL_errors 146 = .ok (.invokevirtual 74, 3) := by decide +kernel
theorem dL_errors_149 : decode cL_errors 149 = .ok (.iload_n 3, 1) := by decide +kernel
theorem dL_errors_150 : decode cL_errors 150 = .ok (.if_icmp .ne 25, 3) := by decide +kernel
theorem dL_errors_153 : decode cL_errors 153 = .ok (.aload_n 0, 1) := by decide +kernel
theorem dL_errors_154 : decode cL_errors 154 = .ok (.iload_n 2, 1) := by decide +kernel
theorem dL_errors_155 : decode cL_errors 155 = .ok (.invokevirtual 64, 3) := by decide +kernel
theorem dL_errors_158 : decode cL_errors 158 = .ok (.iload_n 3, 1) := by decide +kernel
theorem dL_errors_159 : decode cL_errors 159 = .ok (.if_icmp .ne 16, 3) := by decide +kernel
theorem dL_errors_162 : decode cL_errors 162 = .ok (.aload_n 0, 1) := by decide +kernel
theorem dL_errors_163 : decode cL_errors 163 = .ok (.iload_n 1, 1) := by decide +kernel
theorem dL_errors_164 : decode cL_errors 164 = .ok (.invokevirtual 113, 3) := by decide +kernel
theorem dL_errors_167 : decode cL_errors 167 = .ok (.iload_n 3, 1) := by decide +kernel
theorem dL_errors_168 : decode cL_errors 168 = .ok (.if_icmp .ne 7, 3) := by decide +kernel
theorem dL_errors_171 : decode cL_errors 171 = .ok (.iconst 1, 1) := by decide +kernel
theorem dL_errors_172 : decode cL_errors 172 = .ok (.goto 4, 3) := by decide +kernel
theorem dL_errors_175 : decode cL_errors 175 = .ok (.iconst 0, 1) := by decide +kernel
theorem dL_errors_176 : decode cL_errors 176 = .ok (.istore 5, 2) := by decide +kernel
theorem dL_errors_178 : decode cL_errors 178 = .ok (.iload 5, 2) := by decide +kernel
theorem dL_errors_180 : decode cL_errors 180 = .ok (.ifCond .eq 126, 3) := by decide +kernel
theorem dL_errors_183 : decode cL_errors 183 = .ok (.aload_n 0, 1) := by decide +kernel
theorem dL_errors_184 : decode cL_errors 184 = .ok (.iconst 3, 1) := by decide +kernel
theorem dL_errors_185 : decode cL_errors 185 = .ok (.invokevirtual 81, 3) := by decide +kernel
theorem dL_errors_188 : decode cL_errors 188 = .ok (.iload_n 3, 1) := by decide +kernel
theorem dL_errors_189 : decode cL_errors 189 = .ok (.if_icmp .ne 117, 3) := by decide +kernel
theorem dL_errors_192 : decode cL_errors 192 = .ok (.aload_n 0, 1) := by decide +kernel
theorem dL_errors_193 : decode cL_errors 193 = .ok (.iconst (-1), 1) := by decide +kernel
theorem dL_errors_194 : decode cL_errors 194 = .ok (.invokevirtual 128, 3) := by decide +kernel
theorem dL_errors_197 : decode cL_errors 197 = .ok (.iload_n 3, 1) := by decide +kernel
theorem dL_errors_198 : decode cL_errors 198 = .ok (.if_icmp .ne 108, 3) := by decide +kernel
theorem dL_errors_201 : decode cL_errors 201 = .ok (.aload_n 0, 1) := by decide +kernel
theorem dL_errors_202 : decode cL_errors 202 = .ok (.iconst 3, 1) := by decide +kernel
theorem dL_errors_203 : decode cL_errors 203 = .ok (.invokevirtual 99, 3) := by decide +kernel
theorem dL_errors_206 : decode cL_errors 206 = .ok (.iload_n 3, 1) := by decide +kernel
theorem dL_errors_207 : decode cL_errors 207 = .ok (.if_icmp .ne 99, 3) := by decide +kernel
theorem dL_errors_210 : decode cL_errors 210 = .ok (.aload_n 0, 1) := by decide +kernel
theorem dL_errors_211 : decode cL_errors 211 = .ok (.iconst 3, 1) := by decide +kernel
theorem dL_errors_212 : decode cL_errors 212 = .ok (.invokevirtual 84, 3) := by decide +kernel
theorem dL_errors_215 : decode cL_errors 215 = .ok (.iload_n 3, 1) := by decide +kernel
theorem dL_errors_216 : decode cL_errors 216 = .ok (.if_icmp .ne 90, 3) := by decide +kernel
theorem dL_errors_219 : decode cL_errors 219 = .ok (.aload_n 0, 1) := by decide +kernel
theorem dL_errors_220 : decode cL_errors 220 = .ok (.iconst 2, 1) := by decide +kernel
theorem dL_errors_221 : decode cL_errors 221 = .ok (.invokevirtual 128, 3) := by decide +kernel
theorem dL_errors_224 : decode cL_errors 224 = .ok (.sipush (-10004), 3) := by decide +kernel
theorem dL_errors_227 : decode cL_errors 227 = .ok (.if_icmp .ne 79, 3) := by decide +kernel
theorem dL_errors_230 : decode cL_errors 230 = .ok (.aload_n 0, 1) := by decide +kernel
theorem dL_errors_231 : decode cL_errors 231 = .ok (.iconst 2, 1) := by decide +kernel
theorem dL_errors_232 : decode cL_errors 232 = .ok (.invokevirtual 99, 3) := by decide +kernel
theorem dL_errors_235 : decode cL_errors 235 = .ok (.sipush (-10004), 3) := by decide +kernel
theorem dL_errors_238 : decode cL_errors 238 = .ok (.if_icmp .ne 68, 3) := by decide +kernel
theorem dL_errors_241 : decode cL_errors 241 = .ok (.aload_n 0, 1) := by decide +kernel
theorem dL_errors_242 : decode cL_errors 242 = .ok (.iconst 2, 1) := by decide +kernel
theorem dL_errors_243 : decode cL_errors 243 = .ok (.invokevirtual 84, 3) := by decide +kernel
theorem dL_errors_246 : decode cL_errors 246 = .ok (.sipush (-10004), 3) := by decide +kernel
theorem dL_errors_249 : decode cL_errors 249 = .ok (.if_icmp .ne 57, 3) := by decide +kernel
theorem dL_errors_252 : decode cL_errors 252 = .ok (.aload_n 0, 1) := by decide +kernel
theorem dL_errors_253 : decode cL_errors 253 = .ok (.iload_n 2, 1) := by decide +kernel
theorem dL_errors_254 : decode cL_errors 254 = .ok (.invokevirtual 96, 3) := by decide +kernel
theorem dL_errors_257 : decode cL_errors 257 = .ok (.iload_n 3, 1) := by decide +kernel
theorem dL_errors_258 : decode cL_errors 258 = .ok (.if_icmp .ne 48, 3) := by decide +kernel
theorem dL_errors_261 : decode cL_errors 261 = .ok (.aload_n 0, 1) := by decide +kernel
theorem dL_errors_262 : decode cL_errors 262 = .ok (.iconst (-1), 1) := by decide +kernel
theorem dL_errors_263 : decode cL_errors 263 = .ok (.invokevirtual 93, 3) := by decide +kernel
theorem dL_errors_266 : decode cL_errors 266 = .ok (.iload 4, 2) := by decide +kernel
theorem dL_errors_268 : decode cL_errors 268 = .ok (.if_icmp .ne 38, 3) := by decide +kernel
theorem dL_errors_271 : decode cL_errors 271 = .ok (.aload_n 0, 1) := by decide +kernel
theorem dL_errors_272 : decode cL_errors 272 = .ok (.iconst 0, 1) := by decide +kernel
theorem dL_errors_273 : decode cL_errors 273 = .ok (.invokevirtual 93, 3) := by decide +kernel
theorem dL_errors_276 : decode cL_errors 276 = .ok (.iload 4, 2) := by decide +kernel
theorem dL_errors_278 : decode cL_errors 278 = .ok (.if_icmp .ne 28, 3) := by decide +kernel
theorem dL_errors_281 : decode cL_errors 281 = .ok (.aload_n 0, 1) := by decide +kernel
theorem dL_errors_282 : decode cL_errors 282 = .ok (.iload_n 2, 1) := by decide +kernel
theorem dL_errors_283 : decode cL_errors 283 = .ok (.ifCond .ne 7, 3) := by decide +kernel
theorem dL_errors_286 : decode cL_errors 286 = .ok (.iconst 1, 1) := by decide +kernel
theorem dL_errors_287 : decode cL_errors 287 = .ok (.goto 4, 3) := by decide +kernel
theorem dL_errors_290 : decode cL_errors 290 = .ok (.iconst 0, 1) := by decide +kernel
theorem dL_errors_291 : decode cL_errors 291 = .ok (.sipush 1001, 3) := by decide +kernel
theorem dL_errors_294 : decode cL_errors 294 = .ok (.invokevirtual 22, 3) := by decide +kernel
theorem dL_errors_297 : decode cL_errors 297 = .ok (.iload 4, 2) := by decide +kernel
theorem dL_errors_299 : decode cL_errors 299 = .ok (.if_icmp .ne 7, 3) := by decide +kernel
theorem dL_errors_302 : decode cL_errors 302 = .ok (.iconst 1, 1) := by decide +kernel
theorem dL_errors_303 : decode cL_errors 303 = .ok (.goto 4, 3) := by decide +kernel
theorem dL_errors_306 : decode cL_errors 306 = .ok (.iconst 0, 1) := by decide +kernel
theorem dL_errors_307 : decode cL_errors 307 = .ok (.ireturn, 1) := by decide +kernel
theorem dL_law_7 : decode cL_law 7 = .ok (.astore_n 1, 1) := by decide +kernel
theorem dL_law_8 : decode cL_law 8 = .ok (.aload_n 1, 1) := by decide +kernel
theorem dL_law_9 : decode cL_law 9 = .ok (.iconst 0, 1) := by decide +kernel
theorem dL_law_10 : decode cL_law 10 = .ok (.invokevirtual 9, 3) := by decide +kernel
theorem dL_law_13 : decode cL_law 13 = .ok (.iconst 2, 1) := by decide +kernel
theorem dL_law_14 : decode cL_law 14 = .ok (.if_icmp .ne 40, 3) := by decide +kernel
theorem dL_law_17 : decode cL_law 17 = .ok (.aload_n 1, 1) := by decide +kernel
theorem dL_law_18 : decode cL_law 18 = .ok (.iconst 1, 1) := by decide +kernel
theorem dL_law_19 : decode cL_law 19 = .ok (.invokevirtual 9, 3) := by decide +kernel
theorem dL_law_22 : decode cL_law 22 = .ok (.iconst 1, 1) := by decide +kernel
theorem dL_law_23 : decode cL_law 23 = .ok (.if_icmp .ne 31, 3) := by decide +kernel
theorem dL_law_26 : decode cL_law 26 = .ok (.aload_n 1, 1) := by decide +kernel
theorem dL_law_27 : decode cL_law 27 = .ok (.invokevirtual 45, 3) := by decide +kernel
theorem dL_law_30 : decode cL_law 30 = .ok (.lconst 1, 1) := by decide +kernel
theorem dL_law_31 : decode cL_law 31 = .ok (.lcmp, 1) := by decide +kernel
theorem dL_law_32 : decode cL_law 32 = .ok (.ifCond .ne 22, 3) := by decide +kernel
theorem dL_law_35 : decode cL_law 35 = .ok (.aload_n 1, 1) := by decide +kernel
theorem dL_law_36 : decode cL_law 36 = .ok (.invokevirtual 49, 3) := by decide +kernel
theorem dL_law_39 : decode cL_law 39 = .ok (.bipush 7, 2) := by decide +kernel
theorem dL_law_41 : decode cL_law 41 = .ok (.if_icmp .ne 13, 3) := by decide +kernel
theorem dL_law_44 : decode cL_law 44 = .ok (.aload_n 1, 1) := by decide +kernel
theorem dL_law_45 : decode cL_law 45 = .ok (.invokevirtual 132, 3) := by decide +kernel
theorem dL_law_48 : decode cL_law 48 = .ok (.sipush (-10007), 3) := by decide +kernel
theorem dL_law_51 : decode cL_law 51 = .ok (.if_icmp .eq 5, 3) := by decide +kernel
theorem dL_law_54 : decode cL_law 54 = .ok (.iconst 0, 1) := by decide +kernel
theorem dL_law_55 : decode cL_law 55 = .ok (.ireturn, 1) := by decide +kernel
theorem dL_law_56 : decode cL_law 56 = .ok (.aload_n 0, 1) := by decide +kernel
theorem dL_law_57 : decode cL_law 57 = .ok (.iconst 0, 1) := by decide +kernel
theorem dL_law_58 : decode cL_law 58 = .ok (.invokestatic 135, 3) := by decide +kernel
theorem dL_law_61 : decode cL_law 61 = .ok (.istore_n 2, 1) := by decide +kernel
theorem dL_law_62 : decode cL_law 62 = .ok (.iconst 2, 1) := by decide +kernel
theorem dL_law_63 : decode cL_law 63 = .ok (.iload_n 2, 1) := by decide +kernel
theorem dL_law_64 : decode cL_law 64 = .ok (.bipush 6, 2) := by decide +kernel
theorem dL_law_66 : decode cL_law 66 = .ok (.invokestatic 139, 3) := by decide +kernel
theorem dL_law_69 : decode cL_law 69 = .ok (.iadd, 1) := by decide +kernel
theorem dL_law_70 : decode cL_law 70 = .ok (.istore_n 3, 1) := by decide +kernel
theorem dL_law_71 : decode cL_law 71 = .ok (.iconst 0, 1) := by decide +kernel
theorem dL_law_72 : decode cL_law 72 = .ok (.istore 4, 2) := by decide +kernel
theorem dL_law_74 : decode cL_law 74 = .ok (.aload_n 1, 1) := by decide +kernel
theorem dL_law_75 : decode cL_law 75 = .ok (.iload_n 3, 1) := by decide +kernel
theorem dL_law_76 : decode cL_law 76 = .ok (.invokevirtual 116, 3) := by decide +kernel
theorem dL_law_79 : decode cL_law 79 = .ok (.iconst 2, 1) := by decide +kernel
theorem dL_law_80 : decode cL_law 80 = .ok (.if_icmp .ne 19, 3) := by decide +kernel
theorem dL_law_83 : decode cL_law 83 = .ok (.aload_n 1, 1) := by decide +kernel
theorem dL_law_84 : decode cL_law 84 = .ok (.iconst 1, 1) := by decide +kernel
theorem dL_law_85 : decode cL_law 85 = .ok (.invokevirtual 9, 3) := by decide +kernel
theorem dL_law_88 : decode cL_law 88 = .ok (.ifCond .ne 11, 3) := by decide +kernel
theorem dL_law_91 : decode cL_law 91 = .ok (.aload_n 1, 1) := by decide +kernel
theorem dL_law_92 : decode cL_law 92 = .ok (.iconst 3, 1) := by decide +kernel
theorem dL_law_93 : decode cL_law 93 = .ok (.invokevirtual 9, 3) := by decide +kernel
theorem dL_law_96 : decode cL_law 96 = .ok (.ifCond .eq 5, 3) := by decide +kernel
theorem dL_law_99 : decode cL_law 99 = .ok (.iconst 0, 1) := by decide +kernel
theorem dL_law_100 : decode cL_law 100 = .ok (.ireturn, 1) := by decide +kernel
theorem dL_law_101 : decode cL_law 101 = .ok (.iconst 0, 1) := by decide +kernel
theorem dL_law_102 : decode cL_law 102 = .ok (.istore 5, 2) := by decide +kernel
theorem dL_law_104 : decode cL_law 104 = .ok (.iload 5, 2) := by decide +kernel
theorem dL_law_106 : decode cL_law 106 = .ok (.bipush 14, 2) := by decide +kernel
theorem dL_law_108 : decode cL_law 108 = .ok (.if_icmp .ge 176, 3) := by decide +kernel
theorem dL_law_111 : decode cL_law 111 = .ok (.aload_n 0, 1) := by decide +kernel
theorem dL_law_112 : decode cL_law 112 = .ok (.iconst 1, 1) := by decide +kernel
theorem dL_law_113 : decode cL_law 113 = .ok (.iload 5, 2) := by decide +kernel
theorem dL_law_115 : decode cL_law 115 = .ok (.iadd, 1) := by decide +kernel
theorem dL_law_116 : decode cL_law 116 = .ok (.invokestatic 135, 3) := by decide +kernel
theorem dL_law_119 : decode cL_law 119 = .ok (.istore 6, 2) := by decide +kernel
theorem dL_law_121 : decode cL_law 121 = .ok (.iload 5, 2) := by decide +kernel
theorem dL_law_123 : decode cL_law 123 = .ok (.iconst 1, 1) := by decide +kernel
theorem dL_law_124 : decode cL_law 124 = .ok (.iadd, 1) := by decide +kernel
theorem dL_law_125 : decode cL_law 125 = .ok (.iload_n 3, 1) := by decide +kernel
theorem dL_law_126 : decode cL_law 126 = .ok (.if_icmp .ge 15, 3) := by decide +kernel
theorem dL_law_129 : decode cL_law 129 = .ok (.iload 6, 2) := by decide +kernel
theorem dL_law_131 : decode cL_law 131 = .ok (.iload 5, 2) := by decide +kernel
theorem dL_law_133 : decode cL_law 133 = .ok (.iconst 1, 1) := by decide +kernel
theorem dL_law_134 : decode cL_law 134 = .ok (.iadd, 1) := by decide +kernel
theorem dL_law_135 : decode cL_law 135 = .ok (.invokestatic 139, 3) := by decide +kernel
theorem dL_law_138 : decode cL_law 138 = .ok (.goto 9, 3) := by decide +kernel
theorem dL_law_141 : decode cL_law 141 = .ok (.iload 6, 2) := by decide +kernel
theorem dL_law_143 : decode cL_law 143 = .ok (.iload_n 3, 1) := by decide +kernel
theorem dL_law_144 : decode cL_law 144 = .ok (.invokestatic 139, 3) := by decide +kernel
theorem dL_law_147 : decode cL_law 147 = .ok (.istore 7, 2) := by decide +kernel
theorem dL_law_149 : decode cL_law 149 = .ok (.iload 5, 2) := by decide +kernel
theorem dL_law_151 : decode cL_law 151 = .ok (.iconst 1, 1) := by decide +kernel
theorem dL_law_152 : decode cL_law 152 = .ok (.iadd, 1) := by decide +kernel
theorem dL_law_153 : decode cL_law 153 = .ok (.iload_n 3, 1) := by decide +kernel
theorem dL_law_154 : decode cL_law 154 = .ok (.if_icmp .ge 10, 3) := by decide +kernel
theorem dL_law_157 : decode cL_law 157 = .ok (.iload 5, 2) := by decide +kernel
theorem dL_law_159 : decode cL_law 159 = .ok (.iconst 1, 1) := by decide +kernel
theorem dL_law_160 : decode cL_law 160 = .ok (.iadd, 1) := by decide +kernel
theorem dL_law_161 : decode cL_law 161 = .ok (.goto 11, 3) := by decide +kernel
theorem dL_law_164 : decode cL_law 164 = .ok (.iload 6, 2) := by decide +kernel
theorem dL_law_166 : decode cL_law 166 = .ok (.iconst 4, 1) := by decide +kernel
theorem dL_law_167 : decode cL_law 167 = .ok (.ishr, 1) := by decide +kernel
theorem dL_law_168 : decode cL_law 168 = .ok (.iload_n 3, 1) := by decide +kernel
theorem dL_law_169 : decode cL_law 169 = .ok (.invokestatic 139, 3) := by decide +kernel
theorem dL_law_172 : decode cL_law 172 = .ok (.istore 8, 2) := by decide +kernel
theorem dL_law_174 : decode cL_law 174 = .ok (.iload 5, 2) := by decide +kernel
theorem dL_law_176 : decode cL_law 176 = .ok (.iconst 1, 1) := by decide +kernel
theorem dL_law_177 : decode cL_law 177 = .ok (.iadd, 1) := by decide +kernel
theorem dL_law_178 : decode cL_law 178 = .ok (.iload_n 3, 1) := by decide +kernel
theorem dL_law_179 : decode cL_law 179 = .ok (.if_icmp .lt 15, 3) := by decide +kernel
theorem dL_law_182 : decode cL_law 182 = .ok (.iload 6, 2) := by decide +kernel
theorem dL_law_184 : decode cL_law 184 = .ok (.bipush 8, 2) := by decide +kernel
theorem dL_law_186 : decode cL_law 186 = .ok (.ishr, 1) := by decide +kernel
theorem dL_law_187 : decode cL_law 187 = .ok (.iconst 3, 1) := by decide +kernel
theorem dL_law_188 : decode cL_law 188 = .ok (.invokestatic 139, 3) := by decide +kernel
theorem dL_law_191 : decode cL_law 191 = .ok (.ifCond .le 14, 3) := by decide +kernel
theorem dL_law_194 : decode cL_law 194 = .ok (.aload_n 1, 1) := by decide +kernel
theorem dL_law_195 : decode cL_law 195 = .ok (.iload 7, 2) := by decide +kernel
theorem dL_law_197 : decode cL_law 197 = .ok (.iload 8, 2) := by decide +kernel
theorem dL_law_199 : decode cL_law 199 = .ok (.invokevirtual 119, 3) := by decide +kernel
theorem dL_law_202 : decode cL_law 202 = .ok (.goto 4, 3) := by decide +kernel
theorem dL_law_205 : decode cL_law 205 = .ok (.iconst (-1), 1) := by decide +kernel
theorem dL_law_206 : decode cL_law 206 = .ok (.istore 9, 2) := by decide +kernel
theorem dL_law_208 : decode cL_law 208 = .ok (.iload 9, 2) := by decide +kernel
theorem dL_law_210 : decode cL_law 210 = .ok (.ifCond .lt 37, 3) := by decide +kernel
theorem dL_law_213 : decode cL_law 213 = .ok (.iload 9, 2) := by decide +kernel
theorem dL_law_215 : decode cL_law 215 = .ok (.iload 4, 2) := by decide +kernel
theorem dL_law_217 : decode cL_law 217 = .ok (.if_icmp .ne 44, 3) := by decide +kernel
theorem dL_law_220 : decode cL_law 220 = .ok (.aload_n 1, 1) := by decide +kernel
theorem dL_law_221 : decode cL_law 221 = .ok (.iload 9, 2) := by decide +kernel
theorem dL_law_223 : decode cL_law 223 = .ok (.iconst 0, 1) := by decide +kernel
theorem dL_law_224 : decode cL_law 224 = .ok (.invokevirtual 15, 3) := by decide +kernel
theorem dL_law_227 : decode cL_law 227 = .ok (.iload 7, 2) := by decide +kernel
theorem dL_law_229 : decode cL_law 229 = .ok (.if_icmp .ne 32, 3) := by decide +kernel
theorem dL_law_232 : decode cL_law 232 = .ok (.aload_n 1, 1) := by decide +kernel
theorem dL_law_233 : decode cL_law 233 = .ok (.iload 9, 2) := by decide +kernel
theorem dL_law_235 : decode cL_law 235 = .ok (.iconst 1, 1) := by decide +kernel
theorem dL_law_236 : decode cL_law 236 = .ok (.invokevirtual 15, 3) := by decide +kernel
theorem dL_law_239 : decode cL_law 239 = .ok (.iload 8, 2) := by decide +kernel
theorem dL_law_241 : decode cL_law 241 = .ok (.if_icmp .eq 22, 3) := by decide +kernel
theorem dL_law_244 : decode cL_law 244 = .ok (.goto 17, 3) := by decide +kernel
theorem dL_law_247 : decode cL_law 247 = .ok (.iload 9, 2) := by decide +kernel
theorem dL_law_249 : decode cL_law 249 = .ok (.iconst (-1), 1) := by decide +kernel
theorem dL_law_250 : decode cL_law 250 = .ok (.if_icmp .eq 13, 3) := by decide +kernel
theorem dL_law_253 : decode cL_law 253 = .ok (.iload 9, 2) := by decide +kernel
theorem dL_law_255 : decode cL_law 255 = .ok (.sipush (-10002), 3) := by decide +kernel
theorem dL_law_258 : decode cL_law 258 = .ok (.if_icmp .eq 5, 3) := by decide +kernel
theorem dL_law_261 : decode cL_law 261 = .ok (.iconst 0, 1) := by decide +kernel
theorem dL_law_262 : decode cL_law 262 = .ok (.ireturn, 1) := by decide +kernel
theorem dL_law_263 : decode cL_law 263 = .ok (.iload 4, 2) := by decide +kernel
theorem dL_law_265 : decode cL_law 265 = .ok (.iload 9, 2) := by decide +kernel
theorem dL_law_267 : decode cL_law 267 = .ok (.ifCond .lt 7, 3) := by decide +kernel
theorem dL_law_270 : decode cL_law 270 = .ok (.iconst 1, 1) := by decide +kernel
theorem dL_law_271 : decode cL_law 271 = .ok (.goto 4, 3) := by decide +kernel
theorem dL_law_274 : decode cL_law 274 = .ok (.iconst 0, 1) := by decide +kernel
theorem dL_law_275 : decode cL_law 275 = .ok (.iadd, 1) := by decide +kernel
theorem dL_law_276 : decode cL_law 276 = .ok (.istore 4, 2) := by decide +kernel
theorem dL_law_278 : decode cL_law 278 = .ok (.iinc 5 1, 3) := by decide +kernel
theorem dL_law_281 : decode cL_law 281 = .ok (.goto (-177), 3) := by decide +kernel
theorem dL_law_284 : decode cL_law 284 = .ok (.iconst 0, 1) := by decide +kernel
theorem dL_law_285 : decode cL_law 285 = .ok (.istore 5, 2) := by decide +kernel
theorem dL_law_287 : decode cL_law 287 = .ok (.iload 5, 2) := by decide +kernel
theorem dL_law_289 : decode cL_law 289 = .ok (.bipush 8, 2) := by decide +kernel
theorem dL_law_291 : decode cL_law 291 = .ok (.if_icmp .ge 359, 3) := by decide +kernel
theorem dL_law_294 : decode cL_law 294 = .ok (.aload_n 0, 1) := by decide +kernel
theorem dL_law_295 : decode cL_law 295 = .ok (.bipush 15, 2) := by decide +kernel
theorem dL_law_297 : decode cL_law 297 = .ok (.iconst 2, 1) := by decide +kernel
theorem dL_law_298 : decode cL_law 298 = .ok (.iload 5, 2) := by decide +kernel
theorem dL_law_300 : decode cL_law 300 = .ok (.imul, 1) := by decide +kernel
theorem dL_law_301 : decode cL_law 301 = .ok (.iadd, 1) := by decide +kernel
theorem dL_law_302 : decode cL_law 302 = .ok (.invokestatic 135, 3) := by decide +kernel
theorem dL_law_305 : decode cL_law 305 = .ok (.istore 6, 2) := by decide +kernel
theorem dL_law_307 : decode cL_law 307 = .ok (.aload_n 0, 1) := by decide +kernel
theorem dL_law_308 : decode cL_law 308 = .ok (.bipush 16, 2) := by decide +kernel
theorem dL_law_310 : decode cL_law 310 = .ok (.iconst 2, 1) := by decide +kernel
theorem dL_law_311 : decode cL_law 311 = .ok (.iload 5, 2) := by decide +kernel
theorem dL_law_313 : decode cL_law 313 = .ok (.imul, 1) := by decide +kernel
theorem dL_law_314 : decode cL_law 314 = .ok (.iadd, 1) := by decide +kernel
theorem dL_law_315 : decode cL_law 315 = .ok (.invokestatic 135, 3) := by decide +kernel
theorem dL_law_318 : decode cL_law 318 = .ok (.istore 7, 2) := by decide +kernel
theorem dL_law_320 : decode cL_law 320 = .ok (.iload 6, 2) := by decide +kernel
theorem dL_law_322 : decode cL_law 322 = .ok (.bipush 8, 2) := by decide +kernel
theorem dL_law_324 : decode cL_law 324 = .ok (.invokestatic 139, 3) := by decide +kernel
theorem dL_law_327 : decode cL_law 327 = .ok (.istore 8, 2) := by decide +kernel
theorem dL_law_329 : decode cL_law 329 = .ok (.iload 8, 2) := by decide +kernel
theorem dL_law_331 : decode cL_law 331 = .ok (.ifCond .ne 36, 3) := by decide +kernel
theorem dL_law_334 : decode cL_law 334 = .ok (.iload 4, 2) := by decide +kernel
theorem dL_law_336 : decode cL_law 336 = .ok (.ifCond .le 31, 3) := by decide +kernel
theorem dL_law_339 : decode cL_law 339 = .ok (.aload_n 1, 1) := by decide +kernel
theorem dL_law_340 : decode cL_law 340 = .ok (.iload 6, 2) := by decide +kernel
theorem dL_law_342 : decode cL_law 342 = .ok (.iconst 4, 1) := by decide +kernel
theorem dL_law_343 : decode cL_law 343 = .ok (.ishr, 1) := by decide +kernel
theorem dL_law_344 : decode cL_law 344 = .ok (.iload 4, 2) := by decide +kernel
theorem dL_law_346 : decode cL_law 346 = .ok (.invokestatic 139, 3) := by decide +kernel
theorem dL_law_349 : decode cL_law 349 = .ok (.invokevirtual 122, 3) := by decide +kernel
theorem dL_law_352 : decode cL_law 352 = .ok (.iload 4, 2) := by decide +kernel
theorem dL_law_354 : decode cL_law 354 = .ok (.iconst 1, 1) := by decide +kernel
theorem dL_law_355 : decode cL_law 355 = .ok (.isub, 1) := by decide +kernel
theorem dL_law_356 : decode cL_law 356 = .ok (.if_icmp .eq 5, 3) := by decide +kernel
theorem dL_law_359 : decode cL_law 359 = .ok (.iconst 0, 1) := by decide +kernel
theorem dL_law_360 : decode cL_law 360 = .ok (.ireturn, 1) := by decide +kernel
theorem dL_law_361 : decode cL_law 361 = .ok (.iinc 4 (-1), 3) := by decide +kernel
theorem dL_law_364 : decode cL_law 364 = .ok (.goto 49, 3) := by decide +kernel
theorem dL_law_367 : decode cL_law 367 = .ok (.iload 8, 2) := by decide +kernel
theorem dL_law_369 : decode cL_law 369 = .ok (.iconst 1, 1) := by decide +kernel
theorem dL_law_370 : decode cL_law 370 = .ok (.if_icmp .ne 43, 3) := by decide +kernel
theorem dL_law_373 : decode cL_law 373 = .ok (.aload_n 1, 1) := by decide +kernel
theorem dL_law_374 : decode cL_law 374 = .ok (.iconst 2, 1) := by decide +kernel
theorem dL_law_375 : decode cL_law 375 = .ok (.invokevirtual 9, 3) := by decide +kernel
theorem dL_law_378 : decode cL_law 378 = .ok (.istore 9, 2) := by decide +kernel
theorem dL_law_380 : decode cL_law 380 = .ok (.iload 6, 2) := by decide +kernel
theorem dL_law_382 : decode cL_law 382 = .ok (.iconst 4, 1) := by decide +kernel
theorem dL_law_383 : decode cL_law 383 = .ok (.ishr, 1) := by decide +kernel
theorem dL_law_384 : decode cL_law 384 = .ok (.iload_n 3, 1) := by decide +kernel
theorem dL_law_385 : decode cL_law 385 = .ok (.invokestatic 139, 3) := by decide +kernel
theorem dL_law_388 : decode cL_law 388 = .ok (.istore 10, 2) := by decide +kernel
theorem dL_law_390 : decode cL_law 390 = .ok (.aload_n 1, 1) := by decide +kernel
theorem dL_law_391 : decode cL_law 391 = .ok (.iload 10, 2) := by decide +kernel
theorem dL_law_393 : decode cL_law 393 = .ok (.invokevirtual 125, 3) := by decide +kernel
theorem dL_law_396 : decode cL_law 396 = .ok (.iload 9, 2) := by decide +kernel
theorem dL_law_398 : decode cL_law 398 = .ok (.if_icmp .ne 13, 3) := by decide +kernel
theorem dL_law_401 : decode cL_law 401 = .ok (.aload_n 1, 1) := by decide +kernel
theorem dL_law_402 : decode cL_law 402 = .ok (.iconst 2, 1) := by decide +kernel
theorem dL_law_403 : decode cL_law 403 = .ok (.invokevirtual 9, 3) := by decide +kernel
theorem dL_law_406 : decode cL_law 406 = .ok (.iload 10, 2) := by decide +kernel
theorem dL_law_408 : decode cL_law 408 = .ok (.if_icmp .eq 5, 3) := by decide +kernel
theorem dL_law_411 : decode cL_law 411 = .ok (.iconst 0, 1) := by decide +kernel
theorem dL_law_412 : decode cL_law 412 = .ok (.ireturn, 1) := by decide +kernel
theorem dL_law_413 : decode cL_law 413 = .ok (.iconst 0, 1) := by decide +kernel
theorem dL_law_414 : decode cL_law 414 = .ok (.istore 9, 2) := by decide +kernel
theorem dL_law_416 : decode cL_law 416 = .ok (.iload 9, 2) := by decide +kernel
theorem dL_law_418 : decode cL_law 418 = .ok (.iload_n 3, 1) := by decide +kernel
theorem dL_law_419 : decode cL_law 419 = .ok (.if_icmp .ge 55, 3) := by decide +kernel
theorem dL_law_422 : decode cL_law 422 = .ok (.iload 9, 2) := by decide +kernel
theorem dL_law_424 : decode cL_law 424 = .ok (.aload_n 1, 1) := by decide +kernel
theorem dL_law_425 : decode cL_law 425 = .ok (.iconst 2, 1) := by decide +kernel
theorem dL_law_426 : decode cL_law 426 = .ok (.invokevirtual 9, 3) := by decide +kernel
theorem dL_law_429 : decode cL_law 429 = .ok (.if_icmp .eq 39, 3) := by decide +kernel
theorem dL_law_432 : decode cL_law 432 = .ok (.aload_n 1, 1) := by decide +kernel
theorem dL_law_433 : decode cL_law 433 = .ok (.iload 9, 2) := by decide +kernel
theorem dL_law_435 : decode cL_law 435 = .ok (.iload 7, 2) := by decide +kernel
theorem dL_law_437 : decode cL_law 437 = .ok (.iconst 3, 1) := by decide +kernel
theorem dL_law_438 : decode cL_law 438 = .ok (.iload 9, 2) := by decide +kernel
theorem dL_law_440 : decode cL_law 440 = .ok (.imul, 1) := by decide +kernel
theorem dL_law_441 : decode cL_law 441 = .ok (.ishr, 1) := by decide +kernel
theorem dL_law_442 : decode cL_law 442 = .ok (.iload 6, 2) := by decide +kernel
theorem dL_law_444 : decode cL_law 444 = .ok (.bipush 6, 2) := by decide +kernel
theorem dL_law_446 : decode cL_law 446 = .ok (.ishr, 1) := by decide +kernel
theorem dL_law_447 : decode cL_law 447 = .ok (.iconst 4, 1) := by decide +kernel
theorem dL_law_448 : decode cL_law 448 = .ok (.invokestatic 139, 3) := by decide +kernel
theorem dL_law_451 : decode cL_law 451 = .ok (.ifCond .ne 8, 3) := by decide +kernel
theorem dL_law_454 : decode cL_law 454 = .ok (.bipush 30, 2) := by decide +kernel
theorem dL_law_456 : decode cL_law 456 = .ok (.goto 5, 3) := by decide +kernel
theorem dL_law_459 : decode cL_law 459 = .ok (.bipush 8, 2) := by decide +kernel
theorem dL_law_461 : decode cL_law 461 = .ok (.invokestatic 139, 3) := by decide +kernel
theorem dL_law_464 : decode cL_law 464 = .ok (.invokevirtual 22, 3) := by decide +kernel
theorem dL_law_467 : decode cL_law 467 = .ok (.pop, 1) := by decide +kernel
theorem dL_law_468 : decode cL_law 468 = .ok (.iinc 9 1, 3) := by decide +kernel
theorem dL_law_471 : decode cL_law 471 = .ok (.goto (-55), 3) := by decide +kernel
theorem dL_law_474 : decode cL_law 474 = .ok (.aload_n 1, 1) := by decide +kernel
theorem dL_law_475 : decode cL_law 475 = .ok (.invokestatic 142, 3) := by decide +kernel
theorem dL_law_478 : decode cL_law 478 = .ok (.ifCond .eq 14, 3) := by decide +kernel
theorem dL_law_481 : decode cL_law 481 = .ok (.aload_n 1, 1) := by decide +kernel
theorem dL_law_482 : decode cL_law 482 = .ok (.iload 6, 2) := by decide +kernel
theorem dL_law_484 : decode cL_law 484 = .ok (.iconst 3, 1) := by decide +kernel
theorem dL_law_485 : decode cL_law 485 = .ok (.ishr, 1) := by decide +kernel
theorem dL_law_486 : decode cL_law 486 = .ok (.invokestatic 146, 3) := by decide +kernel
theorem dL_law_489 : decode cL_law 489 = .ok (.ifCond .ne 5, 3) := by decide +kernel
theorem dL_law_492 : decode cL_law 492 = .ok (.iconst 0, 1) := by decide +kernel
theorem dL_law_493 : decode cL_law 493 = .ok (.ireturn, 1) := by decide +kernel
theorem dL_law_494 : decode cL_law 494 = .ok (.aload_n 1, 1) := by decide +kernel
theorem dL_law_495 : decode cL_law 495 = .ok (.iconst 3, 1) := by decide +kernel
theorem dL_law_496 : decode cL_law 496 = .ok (.invokevirtual 9, 3) := by decide +kernel
theorem dL_law_499 : decode cL_law 499 = .ok (.iconst 1, 1) := by decide +kernel
theorem dL_law_500 : decode cL_law 500 = .ok (.if_icmp .ne 26, 3) := by decide +kernel
theorem dL_law_503 : decode cL_law 503 = .ok (.aload_n 1, 1) := by decide +kernel
theorem dL_law_504 : decode cL_law 504 = .ok (.invokestatic 150, 3) := by decide +kernel
theorem dL_law_507 : decode cL_law 507 = .ok (.ifCond .eq 17, 3) := by decide +kernel
theorem dL_law_510 : decode cL_law 510 = .ok (.iload 5, 2) := by decide +kernel
theorem dL_law_512 : decode cL_law 512 = .ok (.iconst 3, 1) := by decide +kernel
theorem dL_law_513 : decode cL_law 513 = .ok (.irem, 1) := by decide +kernel
theorem dL_law_514 : decode cL_law 514 = .ok (.ifCond .ne 12, 3) := by decide +kernel
theorem dL_law_517 : decode cL_law 517 = .ok (.aload_n 1, 1) := by decide +kernel
theorem dL_law_518 : decode cL_law 518 = .ok (.invokestatic 153, 3) := by decide +kernel
theorem dL_law_521 : decode cL_law 521 = .ok (.ifCond .ne 5, 3) := by decide +kernel
theorem dL_law_524 : decode cL_law 524 = .ok (.iconst 0, 1) := by decide +kernel
theorem dL_law_525 : decode cL_law 525 = .ok (.ireturn, 1) := by decide +kernel
theorem dL_law_526 : decode cL_law 526 = .ok (.aload_n 1, 1) := by decide +kernel
theorem dL_law_527 : decode cL_law 527 = .ok (.iconst 5, 1) := by decide +kernel
theorem dL_law_528 : decode cL_law 528 = .ok (.invokevirtual 9, 3) := by decide +kernel
theorem dL_law_531 : decode cL_law 531 = .ok (.istore 9, 2) := by decide +kernel
theorem dL_law_533 : decode cL_law 533 = .ok (.aload_n 1, 1) := by decide +kernel
theorem dL_law_534 : decode cL_law 534 = .ok (.iconst 4, 1) := by decide +kernel
theorem dL_law_535 : decode cL_law 535 = .ok (.invokevirtual 9, 3) := by decide +kernel
theorem dL_law_538 : decode cL_law 538 = .ok (.istore 10, 2) := by decide +kernel
theorem dL_law_540 : decode cL_law 540 = .ok (.aload_n 1, 1) := by decide +kernel
theorem dL_law_541 : decode cL_law 541 = .ok (.iconst 2, 1) := by decide +kernel
theorem dL_law_542 : decode cL_law 542 = .ok (.invokevirtual 9, 3) := by decide +kernel
theorem dL_law_545 : decode cL_law 545 = .ok (.ifCond .ne 7, 3) := by decide +kernel
theorem dL_law_548 : decode cL_law 548 = .ok (.iconst 1, 1) := by decide +kernel
theorem dL_law_549 : decode cL_law 549 = .ok (.goto 4, 3) := by decide +kernel
theorem dL_law_552 : decode cL_law 552 = .ok (.iconst 0, 1) := by decide +kernel
theorem dL_law_553 : decode cL_law 553 = .ok (.istore 11, 2) := by decide +kernel
theorem dL_law_555 : decode cL_law 555 = .ok (.aload_n 1, 1) := by decide +kernel
theorem dL_law_556 : decode cL_law 556 = .ok (.iload 11, 2) := by decide +kernel
theorem dL_law_558 : decode cL_law 558 = .ok (.invokevirtual 19, 3) := by decide +kernel
theorem dL_law_561 : decode cL_law 561 = .ok (.istore 12, 2) := by decide +kernel
theorem dL_law_563 : decode cL_law 563 = .ok (.aload_n 1, 1) := by decide +kernel
theorem dL_law_564 : decode cL_law 564 = .ok (.iload 11, 2) := by decide +kernel
theorem dL_law_566 : decode cL_law 566 = .ok (.bipush 77, 2) := by decide +kernel
theorem dL_law_568 : decode cL_law 568 = .ok (.invokevirtual 22, 3) := by decide +kernel
theorem dL_law_571 : decode cL_law 571 = .ok (.iload 12, 2) := by decide +kernel
theorem dL_law_573 : decode cL_law 573 = .ok (.if_icmp .ne 69, 3) := by decide +kernel
theorem dL_law_576 : decode cL_law 576 = .ok (.aload_n 1, 1) := by decide +kernel
theorem dL_law_577 : decode cL_law 577 = .ok (.iconst 5, 1) := by decide +kernel
theorem dL_law_578 : decode cL_law 578 = .ok (.invokevirtual 9, 3) := by decide +kernel
theorem dL_law_581 : decode cL_law 581 = .ok (.iload 9, 2) := by decide +kernel
theorem dL_law_583 : decode cL_law 583 = .ok (.bipush 12, 2) := by decide +kernel
theorem dL_law_585 : decode cL_law 585 = .ok (.if_icmp .ge 10, 3) := by decide +kernel
theorem dL_law_588 : decode cL_law 588 = .ok (.iload 9, 2) := by decide +kernel
theorem dL_law_590 : decode cL_law 590 = .ok (.iconst 1, 1) := by decide +kernel
theorem dL_law_591 : decode cL_law 591 = .ok (.iadd, 1) := by decide +kernel
theorem dL_law_592 : decode cL_law 592 = .ok (.goto 5, 3) := by decide +kernel
theorem dL_law_595 : decode cL_law 595 = .ok (.bipush 12, 2) := by decide +kernel
theorem dL_law_597 : decode cL_law 597 = .ok (.if_icmp .ne 45, 3) := by decide +kernel
theorem dL_law_600 : decode cL_law 600 = .ok (.aload_n 1, 1) := by decide +kernel
theorem dL_law_601 : decode cL_law 601 = .ok (.invokevirtual 132, 3) := by decide +kernel
theorem dL_law_604 : decode cL_law 604 = .ok (.iload 9, 2) := by decide +kernel
theorem dL_law_606 : decode cL_law 606 = .ok (.bipush 12, 2) := by decide +kernel
theorem dL_law_608 : decode cL_law 608 = .ok (.if_icmp .ge 8, 3) := by decide +kernel
theorem dL_law_611 : decode cL_law 611 = .ok (.iload 9, 2) := by decide +kernel
theorem dL_law_613 : decode cL_law 613 = .ok (.goto 5, 3) := by decide +kernel
theorem dL_law_616 : decode cL_law 616 = .ok (.bipush 11, 2) := by decide +kernel
theorem dL_law_618 : decode cL_law 618 = .ok (.if_icmp .ne 24, 3) := by decide +kernel
theorem dL_law_621 : decode cL_law 621 = .ok (.aload_n 1, 1) := by decide +kernel
theorem dL_law_622 : decode cL_law 622 = .ok (.iload 11, 2) := by decide +kernel
theorem dL_law_624 : decode cL_law 624 = .ok (.invokevirtual 19, 3) := by decide +kernel
theorem dL_law_627 : decode cL_law 627 = .ok (.iload 12, 2) := by decide +kernel
theorem dL_law_629 : decode cL_law 629 = .ok (.if_icmp .ne 13, 3) := by decide +kernel
theorem dL_law_632 : decode cL_law 632 = .ok (.aload_n 1, 1) := by decide +kernel
theorem dL_law_633 : decode cL_law 633 = .ok (.iconst 4, 1) := by decide +kernel
theorem dL_law_634 : decode cL_law 634 = .ok (.invokevirtual 9, 3) := by decide +kernel
theorem dL_law_637 : decode cL_law 637 = .ok (.iload 10, 2) := by decide +kernel
theorem dL_law_639 : decode cL_law 639 = .ok (.if_icmp .eq 5, 3) := by decide +kernel
theorem dL_law_642 : decode cL_law 642 = .ok (.iconst 0, 1) := by decide +kernel
theorem dL_law_643 : decode cL_law 643 = .ok (.ireturn, 1) := by decide +kernel
theorem dL_law_644 : decode cL_law 644 = .ok (.iinc 5 1, 3) := by decide +kernel
theorem dL_law_647 : decode cL_law 647 = .ok (.goto (-360), 3) := by decide +kernel
theorem dL_law_650 : decode cL_law 650 = .ok (.aload_n 1, 1) := by decide +kernel
theorem dL_law_651 : decode cL_law 651 = .ok (.invokestatic 156, 3) := by decide +kernel
theorem dL_law_654 : decode cL_law 654 = .ok (.ireturn, 1) := by decide +kernel
set_option maxRecDepth 20000 in
theorem e_La_low {n : Nat} {x0 : Int} {x1 : Int} {s : Sto} {Q : Int → Sto → Prop} (hT : (((-2147483648 ≤ (iand x0 2147483647) ∧ (iand x0 2147483647) < 2147483648) ∧ -2147483648 ≤ x1 ∧ x1 < 2147483648) ∧ ¬ x1 = 0) ∧ Q (Int.tmod (iand x0 2147483647) x1) s) : K_La_low n x0 x1 s Q := by
  refine Sp.body (by decide +kernel) (Nat.le_of_ble_eq_true rfl) ?_
  show Go (SL n) M_La_low (fI Q) 0 0 0 [(0, iV x0), (1, iV x1)] [] s
  refine g_iload_n (npc := 1) dL_low_0 rfl rfl rfl ?_
  refine g_ldc (npc := 3) (x := 2147483647) dL_low_1 rfl tw_490 ?_
  refine g_iand (npc := 4) dL_low_3 rfl ?_
  refine g_iload_n (npc := 5) dL_low_4 rfl rfl rfl ?_
  obtain ⟨h1, hT⟩ := hT
  refine g_irem (npc := 6) dL_low_5 rfl h1.1 h1.2 ?_
  exact g_iret dL_low_6 rfl rfl (by decide) ⟨_, rfl, hT⟩
abbrev H_La_read_2 (n : Nat) (Q : Sto → Prop) (k1 : Nat) (x2 : Int) (s : Sto) : Prop := Go (SL n) M_La_read (fV0 Q) 0 0 2 [(0, .ref 0), (1, .ref k1), (2, iV x2)] [] s
set_option maxRecDepth 20000 in
theorem b_La_read_2 {n : Nat} {Q : Sto → Prop} {k1 : Nat} {x2 : Int} (hk1 : ar (SL n) k1 1 8) {s : Sto} (hT : (-2147483648 ≤ x2 ∧ x2 < 2147483648) ∧ ((8 ≤ x2) → Q s) ∧ ((x2 < 8) → ∃ Q3 : Int → Sto → Prop, K_Cg_value n 0 s Q3 ∧ ∀ r6 s5, Q3 r6 s5 → ((-2147483648 ≤ x2 ∧ x2 < 2147483648) ∧ -2147483648 ≤ r6 ∧ r6 < 2147483648) ∧ ((r6 ≤ x2) → (0 ≤ x2 ∧ x2 < 8) ∧ ∀ s11, s11 = up s5 k1 (Int.toNat x2) 0 → H_La_read_2 n Q k1 (x2 + 1) s11) ∧ ((x2 < r6) → ∃ Q12 : Int → Sto → Prop, K_Cg_value n 2 s5 Q12 ∧ ∀ r15 s14, Q12 r15 s14 → ((-2147483648 ≤ x2 ∧ x2 < 2147483648) ∧ -2147483648 ≤ r15 ∧ r15 < 2147483648) ∧ ((x2 = r15) → (0 ≤ x2 ∧ x2 < 8) ∧ ∀ s20, s20 = up s14 k1 (Int.toNat x2) 0 → H_La_read_2 n Q k1 (x2 + 1) s20) ∧ ((¬ x2 = r15) → ∃ Q21 : Int → Sto → Prop, K_Cg_chips n x2 s14 Q21 ∧ ∀ r24 s23, Q21 r24 s23 → (0 ≤ x2 ∧ x2 < 8) ∧ ∀ s27, s27 = up s23 k1 (Int.toNat x2) r24 → H_La_read_2 n Q k1 (x2 + 1) s27)))) : H_La_read_2 n Q k1 x2 s := by
  refine g_iload_n (npc := 3) dL_read_2 rfl rfl rfl ?_
  refine g_bipush (npc := 5) (x := 8) dL_read_3 rfl (by decide) ?_
  obtain ⟨h1, hTt, hTf⟩ := hT
  refine g_icmp_ge (npc := 8) (tgt := 44) dL_read_5 rfl (by decide) ⟨h1, by decide, by decide⟩ (fun c2 => ?_) (fun c2 => ?_)
  · replace hT := hTt c2
    exact g_ret dL_read_44 rfl (by decide) ⟨rfl, hT⟩
  · replace hT := hTf (Int.not_le.mp c2)
    refine g_aload_n (npc := 9) dL_read_8 rfl rfl rfl ?_
    refine g_iload_n (npc := 10) dL_read_9 rfl rfl rfl ?_
    refine g_iload_n (npc := 11) dL_read_10 rfl rfl rfl ?_
    refine g_aload_n (npc := 12) dL_read_11 rfl rfl rfl ?_
    refine g_iconst (npc := 13) dL_read_12 rfl ?_
    obtain ⟨Q3, h4, hT⟩ := hT
    refine iv_La_9 (npc := 16) dL_read_13 rfl rfl (Nat.le_of_ble_eq_true rfl) (by decide) (by decide) h4 (fun r6 s5 e7 => ?_)
    replace hT := hT r6 s5 e7
    obtain ⟨h8, hTt, hTf⟩ := hT
    refine g_icmp_ge (npc := 19) (tgt := 36) dL_read_16 rfl (by decide) h8 (fun c9 => ?_) (fun c9 => ?_)
    · replace hT := hTt c9
      refine g_iconst (npc := 37) dL_read_36 rfl ?_
      obtain ⟨h10, hT⟩ := hT
      replace hT := hT _ rfl
      refine g_iast (npc := 38) dL_read_37 rfl hk1 h10  ?_
      refine g_iinc (npc := 41) (y := (x2 + 1)) (l' := [(0, .ref 0), (1, .ref k1), (2, iV (x2 + 1))]) dL_read_38 rfl (by decide) rfl (by omega) rfl ?_
      refine g_goto (npc := 2) dL_read_41 (by decide) ?_
      exact hT
    · replace hT := hTf (Int.not_le.mp c9)
      refine g_iload_n (npc := 20) dL_read_19 rfl rfl rfl ?_
      refine g_aload_n (npc := 21) dL_read_20 rfl rfl rfl ?_
      refine g_iconst (npc := 22) dL_read_21 rfl ?_
      obtain ⟨Q12, h13, hT⟩ := hT
      refine iv_La_9 (npc := 25) dL_read_22 rfl rfl (Nat.le_of_ble_eq_true rfl) (by decide) (by decide) h13 (fun r15 s14 e16 => ?_)
      replace hT := hT r15 s14 e16
      obtain ⟨h17, hTt, hTf⟩ := hT
      refine g_icmp_eq (npc := 28) (tgt := 36) dL_read_25 rfl (by decide) h17 (fun c18 => ?_) (fun c18 => ?_)
      · replace hT := hTt c18
        refine g_iconst (npc := 37) dL_read_36 rfl ?_
        obtain ⟨h19, hT⟩ := hT
        replace hT := hT _ rfl
        refine g_iast (npc := 38) dL_read_37 rfl hk1 h19  ?_
        refine g_iinc (npc := 41) (y := (x2 + 1)) (l' := [(0, .ref 0), (1, .ref k1), (2, iV (x2 + 1))]) dL_read_38 rfl (by decide) rfl (by omega) rfl ?_
        refine g_goto (npc := 2) dL_read_41 (by decide) ?_
        exact hT
      · replace hT := hTf c18
        refine g_aload_n (npc := 29) dL_read_28 rfl rfl rfl ?_
        refine g_iload_n (npc := 30) dL_read_29 rfl rfl rfl ?_
        obtain ⟨Q21, h22, hT⟩ := hT
        refine iv_La_19 (npc := 33) dL_read_30 rfl rfl (Nat.le_of_ble_eq_true rfl) (by decide) (by decide) h22 (fun r24 s23 e25 => ?_)
        replace hT := hT r24 s23 e25
        refine g_goto (npc := 37) dL_read_33 (by decide) ?_
        obtain ⟨h26, hT⟩ := hT
        replace hT := hT _ rfl
        refine g_iast (npc := 38) dL_read_37 rfl hk1 h26  ?_
        refine g_iinc (npc := 41) (y := (x2 + 1)) (l' := [(0, .ref 0), (1, .ref k1), (2, iV (x2 + 1))]) dL_read_38 rfl (by decide) rfl (by omega) rfl ?_
        refine g_goto (npc := 2) dL_read_41 (by decide) ?_
        exact hT
set_option maxRecDepth 20000 in
theorem e_La_read {n : Nat} {k1 : Nat} (hk1 : ar (SL n) k1 1 8) {s : Sto} {Q : Sto → Prop} (hT : H_La_read_2 n Q k1 0 s) : K_La_read n k1 s Q := by
  refine Sp.body (by decide +kernel) (Nat.le_of_ble_eq_true rfl) ?_
  show Go (SL n) M_La_read (fV0 Q) 0 0 0 [(0, .ref 0), (1, .ref k1)] [] s
  refine g_iconst (npc := 1) dL_read_0 rfl ?_
  refine g_istore_n (npc := 2) (l' := [(0, .ref 0), (1, .ref k1), (2, iV 0)]) dL_read_1 rfl rfl (by decide) rfl ?_
  exact hT
abbrev H_La_joins_5 (n : Nat) (Q : Int → Sto → Prop) (x1 : Int) (x2 : Int) (x3 : Int) (x4 : Int) (s : Sto) : Prop := Go (SL n) M_La_joins (fI Q) 0 0 5 [(0, .ref 0), (1, iV x1), (2, iV x2), (3, iV x3), (4, iV x4)] [] s
set_option maxRecDepth 20000 in
theorem b_La_joins_5 {n : Nat} {Q : Int → Sto → Prop} {x1 : Int} {x2 : Int} {x3 : Int} {x4 : Int} {s : Sto} (hT : ∃ Q1 : Int → Sto → Prop, K_Cg_value n 1 s Q1 ∧ ∀ r4 s3, Q1 r4 s3 → ((-2147483648 ≤ x4 ∧ x4 < 2147483648) ∧ -2147483648 ≤ r4 ∧ r4 < 2147483648) ∧ ((r4 ≤ x4) → Q x3 s3) ∧ ((x4 < r4) → ∃ Q8 : Int → Sto → Prop, K_Cg_edge n x4 0 s3 Q8 ∧ ∀ r11 s10, Q8 r11 s10 → ∃ Q13 : Int → Sto → Prop, K_Cg_edge n x4 1 s10 Q13 ∧ ∀ r16 s15, Q13 r16 s15 → ∃ J18 : Prop, (J18 → ((-2147483648 ≤ r11 ∧ r11 < 2147483648) ∧ -2147483648 ≤ x2 ∧ x2 < 2147483648) ∧ ((¬ r11 = x2) → H_La_joins_5 n Q x1 x2 (x3 + 0) (x4 + 1) s15) ∧ ((r11 = x2) → ((-2147483648 ≤ r16 ∧ r16 < 2147483648) ∧ -2147483648 ≤ x1 ∧ x1 < 2147483648) ∧ ((¬ r16 = x1) → H_La_joins_5 n Q x1 x2 (x3 + 0) (x4 + 1) s15) ∧ ((r16 = x1) → H_La_joins_5 n Q x1 x2 (x3 + 1) (x4 + 1) s15))) ∧ ((-2147483648 ≤ r11 ∧ r11 < 2147483648) ∧ -2147483648 ≤ x1 ∧ x1 < 2147483648) ∧ ((¬ r11 = x1) → J18) ∧ ((r11 = x1) → ((-2147483648 ≤ r16 ∧ r16 < 2147483648) ∧ -2147483648 ≤ x2 ∧ x2 < 2147483648) ∧ ((r16 = x2) → H_La_joins_5 n Q x1 x2 (x3 + 1) (x4 + 1) s15) ∧ ((¬ r16 = x2) → J18)))) : H_La_joins_5 n Q x1 x2 x3 x4 s := by
  refine g_iload (npc := 7) dL_joins_5 rfl rfl ?_
  refine g_aload_n (npc := 8) dL_joins_7 rfl rfl rfl ?_
  refine g_iconst (npc := 9) dL_joins_8 rfl ?_
  obtain ⟨Q1, h2, hT⟩ := hT
  refine iv_La_9 (npc := 12) dL_joins_9 rfl rfl (Nat.le_of_ble_eq_true rfl) (by decide) (by decide) h2 (fun r4 s3 e5 => ?_)
  replace hT := hT r4 s3 e5
  obtain ⟨h6, hTt, hTf⟩ := hT
  refine g_icmp_ge (npc := 15) (tgt := 71) dL_joins_12 rfl (by decide) h6 (fun c7 => ?_) (fun c7 => ?_)
  · replace hT := hTt c7
    refine g_iload_n (npc := 72) dL_joins_71 rfl rfl rfl ?_
    exact g_iret dL_joins_72 rfl rfl (by decide) ⟨_, rfl, hT⟩
  · replace hT := hTf (Int.not_le.mp c7)
    refine g_aload_n (npc := 16) dL_joins_15 rfl rfl rfl ?_
    refine g_iload (npc := 18) dL_joins_16 rfl rfl ?_
    refine g_iconst (npc := 19) dL_joins_18 rfl ?_
    obtain ⟨Q8, h9, hT⟩ := hT
    refine iv_La_15 (npc := 22) dL_joins_19 rfl rfl (Nat.le_of_ble_eq_true rfl) (by decide) (by decide) h9 (fun r11 s10 e12 => ?_)
    replace hT := hT r11 s10 e12
    refine g_istore (npc := 24) (l' := [(0, .ref 0), (1, iV x1), (2, iV x2), (3, iV x3), (4, iV x4), (5, iV r11)]) dL_joins_22 rfl (by decide) rfl ?_
    refine g_aload_n (npc := 25) dL_joins_24 rfl rfl rfl ?_
    refine g_iload (npc := 27) dL_joins_25 rfl rfl ?_
    refine g_iconst (npc := 28) dL_joins_27 rfl ?_
    obtain ⟨Q13, h14, hT⟩ := hT
    refine iv_La_15 (npc := 31) dL_joins_28 rfl rfl (Nat.le_of_ble_eq_true rfl) (by decide) (by decide) h14 (fun r16 s15 e17 => ?_)
    replace hT := hT r16 s15 e17
    refine g_istore (npc := 33) (l' := [(0, .ref 0), (1, iV x1), (2, iV x2), (3, iV x3), (4, iV x4), (5, iV r11), (6, iV r16)]) dL_joins_31 rfl (by decide) rfl ?_
    refine g_iload_n (npc := 34) dL_joins_33 rfl rfl rfl ?_
    refine g_iload (npc := 36) dL_joins_34 rfl rfl ?_
    refine g_iload_n (npc := 37) dL_joins_36 rfl rfl rfl ?_
    obtain ⟨J18, hT⟩ := hT
    obtain ⟨hj25, hT⟩ := hT
    have K26 : J18 → Go (SL n) M_La_joins (fI Q) 0 0 46 [(0, .ref 0), (1, iV x1), (2, iV x2), (4, iV x4), (5, iV r11), (6, iV r16)] [iV x3] s15 := by
      intro  q29
      replace hT := hj25  q29
      refine g_iload (npc := 48) dL_joins_46 rfl rfl ?_
      refine g_iload_n (npc := 49) dL_joins_48 rfl rfl rfl ?_
      obtain ⟨h21, hTt, hTf⟩ := hT
      refine g_icmp_ne (npc := 52) (tgt := 62) dL_joins_49 rfl (by decide) h21 (fun c22 => ?_) (fun c22 => ?_)
      · replace hT := hTt c22
        refine g_iconst (npc := 63) dL_joins_62 rfl ?_
        refine g_iadd (npc := 64) dL_joins_63 rfl ?_
        refine g_istore_n (npc := 65) (l' := [(0, .ref 0), (1, iV x1), (2, iV x2), (3, iV (x3 + 0)), (4, iV x4), (5, iV r11), (6, iV r16)]) dL_joins_64 rfl rfl (by decide) rfl ?_
        refine g_iinc (npc := 68) (y := (x4 + 1)) (l' := [(0, .ref 0), (1, iV x1), (2, iV x2), (3, iV (x3 + 0)), (4, iV (x4 + 1)), (5, iV r11), (6, iV r16)]) dL_joins_65 rfl (by decide) rfl (by omega) rfl ?_
        refine g_goto (npc := 5) dL_joins_68 (by decide) ?_
        refine Go.lsub [0, 1, 2, 3, 4] rfl ?_
        exact hT
      · replace hT := hTf (Decidable.not_not.mp c22)
        refine g_iload (npc := 54) dL_joins_52 rfl rfl ?_
        refine g_iload_n (npc := 55) dL_joins_54 rfl rfl rfl ?_
        obtain ⟨h23, hTt, hTf⟩ := hT
        refine g_icmp_ne (npc := 58) (tgt := 62) dL_joins_55 rfl (by decide) h23 (fun c24 => ?_) (fun c24 => ?_)
        · replace hT := hTt c24
          refine g_iconst (npc := 63) dL_joins_62 rfl ?_
          refine g_iadd (npc := 64) dL_joins_63 rfl ?_
          refine g_istore_n (npc := 65) (l' := [(0, .ref 0), (1, iV x1), (2, iV x2), (3, iV (x3 + 0)), (4, iV x4), (5, iV r11), (6, iV r16)]) dL_joins_64 rfl rfl (by decide) rfl ?_
          refine g_iinc (npc := 68) (y := (x4 + 1)) (l' := [(0, .ref 0), (1, iV x1), (2, iV x2), (3, iV (x3 + 0)), (4, iV (x4 + 1)), (5, iV r11), (6, iV r16)]) dL_joins_65 rfl (by decide) rfl (by omega) rfl ?_
          refine g_goto (npc := 5) dL_joins_68 (by decide) ?_
          refine Go.lsub [0, 1, 2, 3, 4] rfl ?_
          exact hT
        · replace hT := hTf (Decidable.not_not.mp c24)
          refine g_iconst (npc := 59) dL_joins_58 rfl ?_
          refine g_goto (npc := 63) dL_joins_59 (by decide) ?_
          refine g_iadd (npc := 64) dL_joins_63 rfl ?_
          refine g_istore_n (npc := 65) (l' := [(0, .ref 0), (1, iV x1), (2, iV x2), (3, iV (x3 + 1)), (4, iV x4), (5, iV r11), (6, iV r16)]) dL_joins_64 rfl rfl (by decide) rfl ?_
          refine g_iinc (npc := 68) (y := (x4 + 1)) (l' := [(0, .ref 0), (1, iV x1), (2, iV x2), (3, iV (x3 + 1)), (4, iV (x4 + 1)), (5, iV r11), (6, iV r16)]) dL_joins_65 rfl (by decide) rfl (by omega) rfl ?_
          refine g_goto (npc := 5) dL_joins_68 (by decide) ?_
          refine Go.lsub [0, 1, 2, 3, 4] rfl ?_
          exact hT
    obtain ⟨h19, hTt, hTf⟩ := hT
    refine g_icmp_ne (npc := 40) (tgt := 46) dL_joins_37 rfl (by decide) h19 (fun c20 => ?_) (fun c20 => ?_)
    · replace hT := hTt c20
      refine Go.lsub [0, 1, 2, 4, 5, 6] rfl ?_
      exact K26  hT
    · replace hT := hTf (Decidable.not_not.mp c20)
      refine g_iload (npc := 42) dL_joins_40 rfl rfl ?_
      refine g_iload_n (npc := 43) dL_joins_42 rfl rfl rfl ?_
      obtain ⟨h27, hTt, hTf⟩ := hT
      refine g_icmp_eq (npc := 46) (tgt := 58) dL_joins_43 rfl (by decide) h27 (fun c28 => ?_) (fun c28 => ?_)
      · replace hT := hTt c28
        refine g_iconst (npc := 59) dL_joins_58 rfl ?_
        refine g_goto (npc := 63) dL_joins_59 (by decide) ?_
        refine g_iadd (npc := 64) dL_joins_63 rfl ?_
        refine g_istore_n (npc := 65) (l' := [(0, .ref 0), (1, iV x1), (2, iV x2), (3, iV (x3 + 1)), (4, iV x4), (5, iV r11), (6, iV r16)]) dL_joins_64 rfl rfl (by decide) rfl ?_
        refine g_iinc (npc := 68) (y := (x4 + 1)) (l' := [(0, .ref 0), (1, iV x1), (2, iV x2), (3, iV (x3 + 1)), (4, iV (x4 + 1)), (5, iV r11), (6, iV r16)]) dL_joins_65 rfl (by decide) rfl (by omega) rfl ?_
        refine g_goto (npc := 5) dL_joins_68 (by decide) ?_
        refine Go.lsub [0, 1, 2, 3, 4] rfl ?_
        exact hT
      · replace hT := hTf c28
        refine Go.lsub [0, 1, 2, 4, 5, 6] rfl ?_
        exact K26  hT
set_option maxRecDepth 20000 in
theorem e_La_joins {n : Nat} {x1 : Int} {x2 : Int} {s : Sto} {Q : Int → Sto → Prop} (hT : H_La_joins_5 n Q x1 x2 0 0 s) : K_La_joins n x1 x2 s Q := by
  refine Sp.body (by decide +kernel) (Nat.le_of_ble_eq_true rfl) ?_
  show Go (SL n) M_La_joins (fI Q) 0 0 0 [(0, .ref 0), (1, iV x1), (2, iV x2)] [] s
  refine g_iconst (npc := 1) dL_joins_0 rfl ?_
  refine g_istore_n (npc := 2) (l' := [(0, .ref 0), (1, iV x1), (2, iV x2), (3, iV 0)]) dL_joins_1 rfl rfl (by decide) rfl ?_
  refine g_iconst (npc := 3) dL_joins_2 rfl ?_
  refine g_istore (npc := 5) (l' := [(0, .ref 0), (1, iV x1), (2, iV x2), (3, iV 0), (4, iV 0)]) dL_joins_3 rfl (by decide) rfl ?_
  exact hT
abbrev H_La_are_2 (n : Nat) (Q : Int → Sto → Prop) (k1 : Nat) (x2 : Int) (s : Sto) : Prop := Go (SL n) M_La_are (fI Q) 0 0 2 [(0, .ref 0), (1, .ref k1), (2, iV x2)] [] s
set_option maxRecDepth 20000 in
theorem b_La_are_2 {n : Nat} {Q : Int → Sto → Prop} {k1 : Nat} {x2 : Int} (hk1 : ar (SL n) k1 1 8) {s : Sto} (hT : ∃ Q1 : Int → Sto → Prop, K_Cg_value n 0 s Q1 ∧ ∀ r4 s3, Q1 r4 s3 → ((-2147483648 ≤ x2 ∧ x2 < 2147483648) ∧ -2147483648 ≤ r4 ∧ r4 < 2147483648) ∧ ((r4 ≤ x2) → Q 1 s3) ∧ ((x2 < r4) → ∃ Q8 : Int → Sto → Prop, K_Cg_value n 2 s3 Q8 ∧ ∀ r11 s10, Q8 r11 s10 → ((-2147483648 ≤ x2 ∧ x2 < 2147483648) ∧ -2147483648 ≤ r11 ∧ r11 < 2147483648) ∧ ((x2 = r11) → H_La_are_2 n Q k1 (x2 + 1) s10) ∧ ((¬ x2 = r11) → ∃ Q15 : Int → Sto → Prop, K_Cg_chips n x2 s10 Q15 ∧ ∀ r18 s17, Q15 r18 s17 → (0 ≤ x2 ∧ x2 < 8) ∧ ((-2147483648 ≤ r18 ∧ r18 < 2147483648) ∧ -2147483648 ≤ (s17 k1 (Int.toNat x2)) ∧ (s17 k1 (Int.toNat x2)) < 2147483648) ∧ ((r18 = (s17 k1 (Int.toNat x2))) → H_La_are_2 n Q k1 (x2 + 1) s17) ∧ ((¬ r18 = (s17 k1 (Int.toNat x2))) → Q 0 s17)))) : H_La_are_2 n Q k1 x2 s := by
  refine g_iload_n (npc := 3) dL_are_2 rfl rfl rfl ?_
  refine g_aload_n (npc := 4) dL_are_3 rfl rfl rfl ?_
  refine g_iconst (npc := 5) dL_are_4 rfl ?_
  obtain ⟨Q1, h2, hT⟩ := hT
  refine iv_La_9 (npc := 8) dL_are_5 rfl rfl (Nat.le_of_ble_eq_true rfl) (by decide) (by decide) h2 (fun r4 s3 e5 => ?_)
  replace hT := hT r4 s3 e5
  obtain ⟨h6, hTt, hTf⟩ := hT
  refine g_icmp_ge (npc := 11) (tgt := 39) dL_are_8 rfl (by decide) h6 (fun c7 => ?_) (fun c7 => ?_)
  · replace hT := hTt c7
    refine g_iconst (npc := 40) dL_are_39 rfl ?_
    exact g_iret dL_are_40 rfl (by decide) (by decide) ⟨_, rfl, hT⟩
  · replace hT := hTf (Int.not_le.mp c7)
    refine g_iload_n (npc := 12) dL_are_11 rfl rfl rfl ?_
    refine g_aload_n (npc := 13) dL_are_12 rfl rfl rfl ?_
    refine g_iconst (npc := 14) dL_are_13 rfl ?_
    obtain ⟨Q8, h9, hT⟩ := hT
    refine iv_La_9 (npc := 17) dL_are_14 rfl rfl (Nat.le_of_ble_eq_true rfl) (by decide) (by decide) h9 (fun r11 s10 e12 => ?_)
    replace hT := hT r11 s10 e12
    obtain ⟨h13, hTt, hTf⟩ := hT
    refine g_icmp_eq (npc := 20) (tgt := 33) dL_are_17 rfl (by decide) h13 (fun c14 => ?_) (fun c14 => ?_)
    · replace hT := hTt c14
      refine g_iinc (npc := 36) (y := (x2 + 1)) (l' := [(0, .ref 0), (1, .ref k1), (2, iV (x2 + 1))]) dL_are_33 rfl (by decide) rfl (by omega) rfl ?_
      refine g_goto (npc := 2) dL_are_36 (by decide) ?_
      exact hT
    · replace hT := hTf c14
      refine g_aload_n (npc := 21) dL_are_20 rfl rfl rfl ?_
      refine g_iload_n (npc := 22) dL_are_21 rfl rfl rfl ?_
      obtain ⟨Q15, h16, hT⟩ := hT
      refine iv_La_19 (npc := 25) dL_are_22 rfl rfl (Nat.le_of_ble_eq_true rfl) (by decide) (by decide) h16 (fun r18 s17 e19 => ?_)
      replace hT := hT r18 s17 e19
      refine g_aload_n (npc := 26) dL_are_25 rfl rfl rfl ?_
      refine g_iload_n (npc := 27) dL_are_26 rfl rfl rfl ?_
      obtain ⟨h20, hT⟩ := hT
      refine g_iald (npc := 28) dL_are_27 rfl hk1 h20 ?_
      obtain ⟨h21, hTt, hTf⟩ := hT
      refine g_icmp_eq (npc := 31) (tgt := 33) dL_are_28 rfl (by decide) h21 (fun c22 => ?_) (fun c22 => ?_)
      · replace hT := hTt c22
        refine g_iinc (npc := 36) (y := (x2 + 1)) (l' := [(0, .ref 0), (1, .ref k1), (2, iV (x2 + 1))]) dL_are_33 rfl (by decide) rfl (by omega) rfl ?_
        refine g_goto (npc := 2) dL_are_36 (by decide) ?_
        exact hT
      · replace hT := hTf c22
        refine g_iconst (npc := 32) dL_are_31 rfl ?_
        exact g_iret dL_are_32 rfl (by decide) (by decide) ⟨_, rfl, hT⟩
set_option maxRecDepth 20000 in
theorem e_La_are {n : Nat} {k1 : Nat} (hk1 : ar (SL n) k1 1 8) {s : Sto} {Q : Int → Sto → Prop} (hT : H_La_are_2 n Q k1 0 s) : K_La_are n k1 s Q := by
  refine Sp.body (by decide +kernel) (Nat.le_of_ble_eq_true rfl) ?_
  show Go (SL n) M_La_are (fI Q) 0 0 0 [(0, .ref 0), (1, .ref k1)] [] s
  refine g_iconst (npc := 1) dL_are_0 rfl ?_
  refine g_istore_n (npc := 2) (l' := [(0, .ref 0), (1, .ref k1), (2, iV 0)]) dL_are_1 rfl rfl (by decide) rfl ?_
  exact hT
abbrev H_La_settles_145 (n : Nat) (Q : Int → Sto → Prop) (x1 : Int) (x2 : Int) (x3 : Int) (x7 : Int) (s : Sto) : Prop := Go (SL n) M_La_settles (fI Q) 3 24 145 [(0, .ref 0), (1, iV x1), (2, iV x2), (3, iV x3), (4, .ref 190), (5, .ref 191), (6, .ref 192), (7, iV x7)] [] s
abbrev H_La_settles_181 (n : Nat) (Q : Int → Sto → Prop) (x1 : Int) (x2 : Int) (x3 : Int) (x7 : Int) (s : Sto) : Prop := Go (SL n) M_La_settles (fI Q) 3 24 181 [(0, .ref 0), (1, iV x1), (2, iV x2), (3, iV x3), (4, .ref 190), (5, .ref 191), (6, .ref 192), (7, iV x7)] [] s
abbrev H_La_settles_210 (n : Nat) (Q : Int → Sto → Prop) (x1 : Int) (x2 : Int) (x3 : Int) (x7 : Int) (x8 : Int) (x9 : Int) (s : Sto) : Prop := Go (SL n) M_La_settles (fI Q) 3 24 210 [(0, .ref 0), (1, iV x1), (2, iV x2), (3, iV x3), (4, .ref 190), (5, .ref 191), (6, .ref 192), (7, iV x7), (8, iV x8), (9, iV x9)] [] s
abbrev H_La_settles_269 (n : Nat) (Q : Int → Sto → Prop) (x1 : Int) (x2 : Int) (x3 : Int) (x7 : Int) (x8 : Int) (x9 : Int) (s : Sto) : Prop := Go (SL n) M_La_settles (fI Q) 4 32 269 [(0, .ref 0), (1, iV x1), (2, iV x2), (3, iV x3), (5, .ref 191), (6, .ref 192), (7, iV x7), (8, iV x8), (9, iV x9), (10, .ref 193)] [] s
abbrev H_La_settles_287 (n : Nat) (Q : Int → Sto → Prop) (x1 : Int) (x2 : Int) (x3 : Int) (x7 : Int) (x8 : Int) (x9 : Int) (x11 : Int) (s : Sto) : Prop := Go (SL n) M_La_settles (fI Q) 4 32 287 [(0, .ref 0), (1, iV x1), (2, iV x2), (3, iV x3), (5, .ref 191), (6, .ref 192), (7, iV x7), (8, iV x8), (9, iV x9), (10, .ref 193), (11, iV x11)] [] s
abbrev H_La_settles_393 (n : Nat) (Q : Int → Sto → Prop) (x2 : Int) (x3 : Int) (x7 : Int) (x8 : Int) (x11 : Int) (s : Sto) : Prop := Go (SL n) M_La_settles (fI Q) 4 32 393 [(0, .ref 0), (2, iV x2), (3, iV x3), (5, .ref 191), (6, .ref 192), (7, iV x7), (8, iV x8), (10, .ref 193), (11, iV x11)] [] s
abbrev H_La_settles_498 (n : Nat) (Q : Int → Sto → Prop) (x2 : Int) (x3 : Int) (x11 : Int) (s : Sto) : Prop := Go (SL n) M_La_settles (fI Q) 4 32 498 [(0, .ref 0), (2, iV x2), (3, iV x3), (6, .ref 192), (11, iV x11)] [] s
set_option maxRecDepth 20000 in
theorem b_La_settles_145 {Q : Int → Sto → Prop} {x1 : Int} {x2 : Int} {x3 : Int} {x7 : Int} {s : Sto} (hT : ((-2147483648 ≤ x7 ∧ x7 < 2147483648) ∧ -2147483648 ≤ x2 ∧ x2 < 2147483648) ∧ ((x2 ≤ x7) → H_La_settles_181 3 Q x1 x2 x3 0 s) ∧ ((x7 < x2) → ((-2147483648 ≤ x7 ∧ x7 < 2147483648) ∧ -2147483648 ≤ x3 ∧ x3 < 2147483648) ∧ ((¬ x7 = x3) → ∃ Q93 : Int → Sto → Prop, K_Cg_firings 3 x7 s Q93 ∧ ∀ r96 s95, Q93 r96 s95 → (0 ≤ x7 ∧ x7 < 8) ∧ ∀ s99, s99 = up s95 191 (Int.toNat x7) r96 → H_La_settles_145 3 Q x1 x2 x3 (x7 + 1) s99) ∧ ((x7 = x3) → (0 ≤ x7 ∧ x7 < 8) ∧ ∀ s101, s101 = up s 191 (Int.toNat x7) 0 → H_La_settles_145 3 Q x1 x2 x3 (x7 + 1) s101))) : H_La_settles_145 3 Q x1 x2 x3 x7 s := by
  refine g_iload (npc := 147) dL_settles_145 rfl rfl ?_
  refine g_iload_n (npc := 148) dL_settles_147 rfl rfl rfl ?_
  obtain ⟨h89, hTt, hTf⟩ := hT
  refine g_icmp_ge (npc := 151) (tgt := 178) dL_settles_148 rfl (by decide) h89 (fun c90 => ?_) (fun c90 => ?_)
  · replace hT := hTt c90
    refine g_iconst (npc := 179) dL_settles_178 rfl ?_
    refine g_istore (npc := 181) (l' := [(0, .ref 0), (1, iV x1), (2, iV x2), (3, iV x3), (4, .ref 190), (5, .ref 191), (6, .ref 192), (7, iV 0)]) dL_settles_179 rfl (by decide) rfl ?_
    exact hT
  · replace hT := hTf (Int.not_le.mp c90)
    refine g_aload (npc := 153) dL_settles_151 rfl rfl ?_
    refine g_iload (npc := 155) dL_settles_153 rfl rfl ?_
    refine g_iload (npc := 157) dL_settles_155 rfl rfl ?_
    refine g_iload_n (npc := 158) dL_settles_157 rfl rfl rfl ?_
    obtain ⟨h91, hTt, hTf⟩ := hT
    refine g_icmp_ne (npc := 161) (tgt := 165) dL_settles_158 rfl (by decide) h91 (fun c92 => ?_) (fun c92 => ?_)
    · replace hT := hTt c92
      refine g_aload_n (npc := 166) dL_settles_165 rfl rfl rfl ?_
      refine g_iload (npc := 168) dL_settles_166 rfl rfl ?_
      obtain ⟨Q93, h94, hT⟩ := hT
      refine iv_La_64 (npc := 171) dL_settles_168 rfl rfl (Nat.le_of_ble_eq_true rfl) (by decide) (by decide) h94 (fun r96 s95 e97 => ?_)
      replace hT := hT r96 s95 e97
      obtain ⟨h98, hT⟩ := hT
      replace hT := hT _ rfl
      refine g_iast (npc := 172) dL_settles_171 rfl (arX (by decide) (by decide)) h98  ?_
      refine g_iinc (npc := 175) (y := (x7 + 1)) (l' := [(0, .ref 0), (1, iV x1), (2, iV x2), (3, iV x3), (4, .ref 190), (5, .ref 191), (6, .ref 192), (7, iV (x7 + 1))]) dL_settles_172 rfl (by decide) rfl (by omega) rfl ?_
      refine g_goto (npc := 145) dL_settles_175 (by decide) ?_
      exact hT
    · replace hT := hTf (Decidable.not_not.mp c92)
      refine g_iconst (npc := 162) dL_settles_161 rfl ?_
      refine g_goto (npc := 171) dL_settles_162 (by decide) ?_
      obtain ⟨h100, hT⟩ := hT
      replace hT := hT _ rfl
      refine g_iast (npc := 172) dL_settles_171 rfl (arX (by decide) (by decide)) h100  ?_
      refine g_iinc (npc := 175) (y := (x7 + 1)) (l' := [(0, .ref 0), (1, iV x1), (2, iV x2), (3, iV x3), (4, .ref 190), (5, .ref 191), (6, .ref 192), (7, iV (x7 + 1))]) dL_settles_172 rfl (by decide) rfl (by omega) rfl ?_
      refine g_goto (npc := 145) dL_settles_175 (by decide) ?_
      exact hT
set_option maxRecDepth 20000 in
theorem b_La_settles_181 {Q : Int → Sto → Prop} {x1 : Int} {x2 : Int} {x3 : Int} {x7 : Int} {s : Sto} (hT : ((-2147483648 ≤ x7 ∧ x7 < 2147483648) ∧ -2147483648 ≤ x2 ∧ x2 < 2147483648) ∧ ((x2 ≤ x7) → ∀ s104, s104 = zr s 193 → H_La_settles_269 4 Q x1 x2 x3 0 0 1 s104) ∧ ((x7 < x2) → (0 ≤ x7 ∧ x7 < 8) ∧ (0 ≤ x7 ∧ x7 < 8) ∧ ∃ Q107 : Int → Sto → Prop, K_Cg_degree 3 x7 s Q107 ∧ ∀ r110 s109, Q107 r110 s109 → H_La_settles_210 3 Q x1 x2 x3 x7 ((s 190 (Int.toNat x7)) - ((s 191 (Int.toNat x7)) * r110)) 0 s109)) : H_La_settles_181 3 Q x1 x2 x3 x7 s := by
  refine g_iload (npc := 183) dL_settles_181 rfl rfl ?_
  refine g_iload_n (npc := 184) dL_settles_183 rfl rfl rfl ?_
  obtain ⟨h102, hTt, hTf⟩ := hT
  refine g_icmp_ge (npc := 187) (tgt := 254) dL_settles_184 rfl (by decide) h102 (fun c103 => ?_) (fun c103 => ?_)
  · replace hT := hTt c103
    refine g_iconst (npc := 255) dL_settles_254 rfl ?_
    refine g_istore (npc := 257) (l' := [(0, .ref 0), (1, iV x1), (2, iV x2), (3, iV x3), (4, .ref 190), (5, .ref 191), (6, .ref 192), (7, iV 0)]) dL_settles_255 rfl (by decide) rfl ?_
    refine g_iconst (npc := 258) dL_settles_257 rfl ?_
    refine g_istore (npc := 260) (l' := [(0, .ref 0), (1, iV x1), (2, iV x2), (3, iV x3), (4, .ref 190), (5, .ref 191), (6, .ref 192), (7, iV 0), (8, iV 0)]) dL_settles_258 rfl (by decide) rfl ?_
    refine g_iconst (npc := 261) dL_settles_260 rfl ?_
    refine g_istore (npc := 263) (l' := [(0, .ref 0), (1, iV x1), (2, iV x2), (3, iV x3), (4, .ref 190), (5, .ref 191), (6, .ref 192), (7, iV 0), (8, iV 0), (9, iV 1)]) dL_settles_261 rfl (by decide) rfl ?_
    refine g_bipush (npc := 265) (x := 8) dL_settles_263 rfl (by decide) ?_
    replace hT := hT _ rfl
    refine g_newI (npc := 267) (n := 3) dL_settles_265 rfl tw_newI (by decide) (by decide) (fI_nr _) rfl rfl ?_
    refine g_astore (npc := 269) (l' := [(0, .ref 0), (1, iV x1), (2, iV x2), (3, iV x3), (4, .ref 190), (5, .ref 191), (6, .ref 192), (7, iV 0), (8, iV 0), (9, iV 1), (10, .ref 193)]) dL_settles_267 rfl (by decide) rfl ?_
    refine Go.lsub [0, 1, 2, 3, 5, 6, 7, 8, 9, 10] rfl ?_
    exact hT
  · replace hT := hTf (Int.not_le.mp c103)
    refine g_aload (npc := 189) dL_settles_187 rfl rfl ?_
    refine g_iload (npc := 191) dL_settles_189 rfl rfl ?_
    obtain ⟨h105, hT⟩ := hT
    refine g_iald (npc := 192) dL_settles_191 rfl (arX (by decide) (by decide)) h105 ?_
    refine g_aload (npc := 194) dL_settles_192 rfl rfl ?_
    refine g_iload (npc := 196) dL_settles_194 rfl rfl ?_
    obtain ⟨h106, hT⟩ := hT
    refine g_iald (npc := 197) dL_settles_196 rfl (arX (by decide) (by decide)) h106 ?_
    refine g_aload_n (npc := 198) dL_settles_197 rfl rfl rfl ?_
    refine g_iload (npc := 200) dL_settles_198 rfl rfl ?_
    obtain ⟨Q107, h108, hT⟩ := hT
    refine iv_La_67 (npc := 203) dL_settles_200 rfl rfl (Nat.le_of_ble_eq_true rfl) (by decide) (by decide) h108 (fun r110 s109 e111 => ?_)
    replace hT := hT r110 s109 e111
    refine g_imul (npc := 204) dL_settles_203 rfl ?_
    refine g_isub (npc := 205) dL_settles_204 rfl ?_
    refine g_istore (npc := 207) (l' := [(0, .ref 0), (1, iV x1), (2, iV x2), (3, iV x3), (4, .ref 190), (5, .ref 191), (6, .ref 192), (7, iV x7), (8, iV ((s 190 (Int.toNat x7)) - ((s 191 (Int.toNat x7)) * r110)))]) dL_settles_205 rfl (by decide) rfl ?_
    refine g_iconst (npc := 208) dL_settles_207 rfl ?_
    refine g_istore (npc := 210) (l' := [(0, .ref 0), (1, iV x1), (2, iV x2), (3, iV x3), (4, .ref 190), (5, .ref 191), (6, .ref 192), (7, iV x7), (8, iV ((s 190 (Int.toNat x7)) - ((s 191 (Int.toNat x7)) * r110))), (9, iV 0)]) dL_settles_208 rfl (by decide) rfl ?_
    exact hT
set_option maxRecDepth 20000 in
theorem b_La_settles_210 {Q : Int → Sto → Prop} {x1 : Int} {x2 : Int} {x3 : Int} {x7 : Int} {x8 : Int} {x9 : Int} {s : Sto} (hT : ((-2147483648 ≤ x9 ∧ x9 < 2147483648) ∧ -2147483648 ≤ x2 ∧ x2 < 2147483648) ∧ ((x2 ≤ x9) → (0 ≤ x7 ∧ x7 < 8) ∧ ∀ s119, s119 = up s 192 (Int.toNat x7) x8 → H_La_settles_181 3 Q x1 x2 x3 (x7 + 1) s119) ∧ ((x9 < x2) → (0 ≤ x9 ∧ x9 < 8) ∧ ∃ Q121 : Int → Sto → Prop, K_La_joins 3 x7 x9 s Q121 ∧ ∀ r124 s123, Q121 r124 s123 → H_La_settles_210 3 Q x1 x2 x3 x7 (x8 + ((s 191 (Int.toNat x9)) * r124)) (x9 + 1) s123)) : H_La_settles_210 3 Q x1 x2 x3 x7 x8 x9 s := by
  refine g_iload (npc := 212) dL_settles_210 rfl rfl ?_
  refine g_iload_n (npc := 213) dL_settles_212 rfl rfl rfl ?_
  obtain ⟨h116, hTt, hTf⟩ := hT
  refine g_icmp_ge (npc := 216) (tgt := 241) dL_settles_213 rfl (by decide) h116 (fun c117 => ?_) (fun c117 => ?_)
  · replace hT := hTt c117
    refine g_aload (npc := 243) dL_settles_241 rfl rfl ?_
    refine g_iload (npc := 245) dL_settles_243 rfl rfl ?_
    refine g_iload (npc := 247) dL_settles_245 rfl rfl ?_
    obtain ⟨h118, hT⟩ := hT
    replace hT := hT _ rfl
    refine g_iast (npc := 248) dL_settles_247 rfl (arX (by decide) (by decide)) h118  ?_
    refine g_iinc (npc := 251) (y := (x7 + 1)) (l' := [(0, .ref 0), (1, iV x1), (2, iV x2), (3, iV x3), (4, .ref 190), (5, .ref 191), (6, .ref 192), (7, iV (x7 + 1)), (8, iV x8), (9, iV x9)]) dL_settles_248 rfl (by decide) rfl (by omega) rfl ?_
    refine g_goto (npc := 181) dL_settles_251 (by decide) ?_
    refine Go.lsub [0, 1, 2, 3, 4, 5, 6, 7] rfl ?_
    exact hT
  · replace hT := hTf (Int.not_le.mp c117)
    refine g_iload (npc := 218) dL_settles_216 rfl rfl ?_
    refine g_aload (npc := 220) dL_settles_218 rfl rfl ?_
    refine g_iload (npc := 222) dL_settles_220 rfl rfl ?_
    obtain ⟨h120, hT⟩ := hT
    refine g_iald (npc := 223) dL_settles_222 rfl (arX (by decide) (by decide)) h120 ?_
    refine g_aload_n (npc := 224) dL_settles_223 rfl rfl rfl ?_
    refine g_iload (npc := 226) dL_settles_224 rfl rfl ?_
    refine g_iload (npc := 228) dL_settles_226 rfl rfl ?_
    obtain ⟨Q121, h122, hT⟩ := hT
    refine iv_La_70 (npc := 231) dL_settles_228 rfl rfl (Nat.le_of_ble_eq_true rfl) (by decide) (by decide) h122 (fun r124 s123 e125 => ?_)
    replace hT := hT r124 s123 e125
    refine g_imul (npc := 232) dL_settles_231 rfl ?_
    refine g_iadd (npc := 233) dL_settles_232 rfl ?_
    refine g_istore (npc := 235) (l' := [(0, .ref 0), (1, iV x1), (2, iV x2), (3, iV x3), (4, .ref 190), (5, .ref 191), (6, .ref 192), (7, iV x7), (8, iV (x8 + ((s 191 (Int.toNat x9)) * r124))), (9, iV x9)]) dL_settles_233 rfl (by decide) rfl ?_
    refine g_iinc (npc := 238) (y := (x9 + 1)) (l' := [(0, .ref 0), (1, iV x1), (2, iV x2), (3, iV x3), (4, .ref 190), (5, .ref 191), (6, .ref 192), (7, iV x7), (8, iV (x8 + ((s 191 (Int.toNat x9)) * r124))), (9, iV (x9 + 1))]) dL_settles_235 rfl (by decide) rfl (by omega) rfl ?_
    refine g_goto (npc := 210) dL_settles_238 (by decide) ?_
    exact hT
set_option maxRecDepth 20000 in
theorem b_La_settles_269 {Q : Int → Sto → Prop} {x1 : Int} {x2 : Int} {x3 : Int} {x7 : Int} {x8 : Int} {x9 : Int} {s : Sto} (hT : (-2147483648 ≤ x9 ∧ x9 < 2147483648) ∧ ((x9 = 0) → H_La_settles_393 4 Q x2 x3 x7 x8 0 s) ∧ ((¬ x9 = 0) → (-2147483648 ≤ x8 ∧ x8 < 2147483648) ∧ ((60 ≤ x8) → H_La_settles_393 4 Q x2 x3 x7 x8 0 s) ∧ ((x8 < 60) → H_La_settles_287 4 Q x1 x2 x3 x7 x8 0 0 s))) : H_La_settles_269 4 Q x1 x2 x3 x7 x8 x9 s := by
  refine g_iload (npc := 271) dL_settles_269 rfl rfl ?_
  obtain ⟨h112, hTt, hTf⟩ := hT
  refine g_if_eq (npc := 274) (tgt := 390) dL_settles_271 rfl (by decide) h112 (fun c113 => ?_) (fun c113 => ?_)
  · replace hT := hTt c113
    refine g_iconst (npc := 391) dL_settles_390 rfl ?_
    refine g_istore (npc := 393) (l' := [(0, .ref 0), (1, iV x1), (2, iV x2), (3, iV x3), (5, .ref 191), (6, .ref 192), (7, iV x7), (8, iV x8), (9, iV x9), (10, .ref 193), (11, iV 0)]) dL_settles_391 rfl (by decide) rfl ?_
    refine Go.lsub [0, 2, 3, 4, 5, 6, 7, 9, 10] rfl ?_
    exact hT
  · replace hT := hTf c113
    refine g_iload (npc := 276) dL_settles_274 rfl rfl ?_
    refine g_bipush (npc := 278) (x := 60) dL_settles_276 rfl (by decide) ?_
    obtain ⟨h114, hTt, hTf⟩ := hT
    refine g_icmp_ge (npc := 281) (tgt := 390) dL_settles_278 rfl (by decide) ⟨h114, by decide, by decide⟩ (fun c115 => ?_) (fun c115 => ?_)
    · replace hT := hTt c115
      refine g_iconst (npc := 391) dL_settles_390 rfl ?_
      refine g_istore (npc := 393) (l' := [(0, .ref 0), (1, iV x1), (2, iV x2), (3, iV x3), (5, .ref 191), (6, .ref 192), (7, iV x7), (8, iV x8), (9, iV x9), (10, .ref 193), (11, iV 0)]) dL_settles_391 rfl (by decide) rfl ?_
      refine Go.lsub [0, 2, 3, 4, 5, 6, 7, 9, 10] rfl ?_
      exact hT
    · replace hT := hTf (Int.not_le.mp c115)
      refine g_iconst (npc := 282) dL_settles_281 rfl ?_
      refine g_istore (npc := 284) (l' := [(0, .ref 0), (1, iV x1), (2, iV x2), (3, iV x3), (5, .ref 191), (6, .ref 192), (7, iV x7), (8, iV x8), (9, iV 0), (10, .ref 193)]) dL_settles_282 rfl (by decide) rfl ?_
      refine g_iconst (npc := 285) dL_settles_284 rfl ?_
      refine g_istore (npc := 287) (l' := [(0, .ref 0), (1, iV x1), (2, iV x2), (3, iV x3), (5, .ref 191), (6, .ref 192), (7, iV x7), (8, iV x8), (9, iV 0), (10, .ref 193), (11, iV 0)]) dL_settles_285 rfl (by decide) rfl ?_
      exact hT
set_option maxRecDepth 20000 in
theorem b_La_settles_287 {Q : Int → Sto → Prop} {x1 : Int} {x2 : Int} {x3 : Int} {x7 : Int} {x8 : Int} {x9 : Int} {x11 : Int} {s : Sto} (hT : ((-2147483648 ≤ x11 ∧ x11 < 2147483648) ∧ -2147483648 ≤ x2 ∧ x2 < 2147483648) ∧ ((x2 ≤ x11) → H_La_settles_269 4 Q x1 x2 x3 x7 x8 x9 s) ∧ ((x11 < x2) → ∃ J177 : Int → Prop, (∀ v176, J177 v176 → ((-2147483648 ≤ v176 ∧ v176 < 2147483648) ∧ -2147483648 ≤ x3 ∧ x3 < 2147483648) ∧ ((v176 = x3) → H_La_settles_287 4 Q x1 x2 x3 x7 x8 x9 (x11 + 1) s) ∧ ((¬ v176 = x3) → ∃ Q182 : Int → Sto → Prop, K_Cg_chips 4 v176 s Q182 ∧ ∀ r185 s184, Q182 r185 s184 → ∃ Q187 : Int → Sto → Prop, K_Cg_degree 4 v176 s184 Q187 ∧ ∀ r190 s189, Q187 r190 s189 → ((-2147483648 ≤ r185 ∧ r185 < 2147483648) ∧ -2147483648 ≤ r190 ∧ r190 < 2147483648) ∧ ((r185 < r190) → H_La_settles_287 4 Q x1 x2 x3 x7 x8 x9 (x11 + 1) s189) ∧ ((r190 ≤ r185) → (-2147483648 ≤ x9 ∧ x9 < 2147483648) ∧ ((¬ x9 = 0) → H_La_settles_287 4 Q x1 x2 x3 x7 x8 x9 (x11 + 1) s189) ∧ ((x9 = 0) → ∃ Q196 : Int → Sto → Prop, K_Cg_chips 4 v176 s189 Q196 ∧ ∀ r199 s198, Q196 r199 s198 → ∃ Q201 : Int → Sto → Prop, K_Cg_fire 4 v176 s198 Q201 ∧ ∀ r204 s203, Q201 r204 s203 → ∃ Q206 : Int → Sto → Prop, K_Cg_degree 4 v176 s203 Q206 ∧ ∀ r209 s208, Q206 r209 s208 → ((-2147483648 ≤ r204 ∧ r204 < 2147483648) ∧ -2147483648 ≤ (r199 - r209) ∧ (r199 - r209) < 2147483648) ∧ ((r204 = (r199 - r209)) → (0 ≤ v176 ∧ v176 < 8) ∧ (0 ≤ v176 ∧ v176 < 8) ∧ ∀ s215, s215 = up s208 193 (Int.toNat v176) ((s208 193 (Int.toNat v176)) + 1) → H_La_settles_287 4 Q x1 x2 x3 x7 (x8 + 1) 1 (x11 + 1) s215) ∧ ((¬ r204 = (r199 - r209)) → Q 0 s208))))) ∧ (-2147483648 ≤ (iand x1 1) ∧ (iand x1 1) < 2147483648) ∧ ((¬ (iand x1 1) = 0) → J177 ((x2 - 1) - x11)) ∧ (((iand x1 1) = 0) → J177 x11))) : H_La_settles_287 4 Q x1 x2 x3 x7 x8 x9 x11 s := by
  refine g_iload (npc := 289) dL_settles_287 rfl rfl ?_
  refine g_iload_n (npc := 290) dL_settles_289 rfl rfl rfl ?_
  obtain ⟨h172, hTt, hTf⟩ := hT
  refine g_icmp_ge (npc := 293) (tgt := 387) dL_settles_290 rfl (by decide) h172 (fun c173 => ?_) (fun c173 => ?_)
  · replace hT := hTt c173
    refine g_goto (npc := 269) dL_settles_387 (by decide) ?_
    refine Go.lsub [0, 1, 2, 3, 4, 5, 6, 7, 8, 9] rfl ?_
    exact hT
  · replace hT := hTf (Int.not_le.mp c173)
    refine g_iload_n (npc := 294) dL_settles_293 rfl rfl rfl ?_
    refine g_iconst (npc := 295) dL_settles_294 rfl ?_
    refine g_iand (npc := 296) dL_settles_295 rfl ?_
    obtain ⟨J177, hT⟩ := hT
    obtain ⟨hj216, hT⟩ := hT
    have K217 : ∀ (v176 : Int), J177 v176 → Go (SL 4) M_La_settles (fI Q) 4 32 310 [(0, .ref 0), (1, iV x1), (2, iV x2), (3, iV x3), (5, .ref 191), (6, .ref 192), (7, iV x7), (8, iV x8), (9, iV x9), (10, .ref 193), (11, iV x11)] [iV v176] s := by
      intro v176 q218
      replace hT := hj216 v176 q218
      refine g_istore (npc := 312) (l' := [(0, .ref 0), (1, iV x1), (2, iV x2), (3, iV x3), (5, .ref 191), (6, .ref 192), (7, iV x7), (8, iV x8), (9, iV x9), (10, .ref 193), (11, iV x11), (12, iV v176)]) dL_settles_310 rfl (by decide) rfl ?_
      refine g_iload (npc := 314) dL_settles_312 rfl rfl ?_
      refine g_iload_n (npc := 315) dL_settles_314 rfl rfl rfl ?_
      obtain ⟨h180, hTt, hTf⟩ := hT
      refine g_icmp_eq (npc := 318) (tgt := 381) dL_settles_315 rfl (by decide) h180 (fun c181 => ?_) (fun c181 => ?_)
      · replace hT := hTt c181
        refine g_iinc (npc := 384) (y := (x11 + 1)) (l' := [(0, .ref 0), (1, iV x1), (2, iV x2), (3, iV x3), (5, .ref 191), (6, .ref 192), (7, iV x7), (8, iV x8), (9, iV x9), (10, .ref 193), (11, iV (x11 + 1)), (12, iV v176)]) dL_settles_381 rfl (by decide) rfl (by omega) rfl ?_
        refine g_goto (npc := 287) dL_settles_384 (by decide) ?_
        refine Go.lsub [0, 1, 2, 3, 4, 5, 6, 7, 8, 9, 10] rfl ?_
        exact hT
      · replace hT := hTf c181
        refine g_aload_n (npc := 319) dL_settles_318 rfl rfl rfl ?_
        refine g_iload (npc := 321) dL_settles_319 rfl rfl ?_
        obtain ⟨Q182, h183, hT⟩ := hT
        refine iv_La_19 (npc := 324) dL_settles_321 rfl rfl (Nat.le_of_ble_eq_true rfl) (by decide) (by decide) h183 (fun r185 s184 e186 => ?_)
        replace hT := hT r185 s184 e186
        refine g_aload_n (npc := 325) dL_settles_324 rfl rfl rfl ?_
        refine g_iload (npc := 327) dL_settles_325 rfl rfl ?_
        obtain ⟨Q187, h188, hT⟩ := hT
        refine iv_La_67 (npc := 330) dL_settles_327 rfl rfl (Nat.le_of_ble_eq_true rfl) (by decide) (by decide) h188 (fun r190 s189 e191 => ?_)
        replace hT := hT r190 s189 e191
        obtain ⟨h192, hTt, hTf⟩ := hT
        refine g_icmp_lt (npc := 333) (tgt := 381) dL_settles_330 rfl (by decide) h192 (fun c193 => ?_) (fun c193 => ?_)
        · replace hT := hTt c193
          refine g_iinc (npc := 384) (y := (x11 + 1)) (l' := [(0, .ref 0), (1, iV x1), (2, iV x2), (3, iV x3), (5, .ref 191), (6, .ref 192), (7, iV x7), (8, iV x8), (9, iV x9), (10, .ref 193), (11, iV (x11 + 1)), (12, iV v176)]) dL_settles_381 rfl (by decide) rfl (by omega) rfl ?_
          refine g_goto (npc := 287) dL_settles_384 (by decide) ?_
          refine Go.lsub [0, 1, 2, 3, 4, 5, 6, 7, 8, 9, 10] rfl ?_
          exact hT
        · replace hT := hTf (Int.not_lt.mp c193)
          refine g_iload (npc := 335) dL_settles_333 rfl rfl ?_
          obtain ⟨h194, hTt, hTf⟩ := hT
          refine g_if_ne (npc := 338) (tgt := 381) dL_settles_335 rfl (by decide) h194 (fun c195 => ?_) (fun c195 => ?_)
          · replace hT := hTt c195
            refine g_iinc (npc := 384) (y := (x11 + 1)) (l' := [(0, .ref 0), (1, iV x1), (2, iV x2), (3, iV x3), (5, .ref 191), (6, .ref 192), (7, iV x7), (8, iV x8), (9, iV x9), (10, .ref 193), (11, iV (x11 + 1)), (12, iV v176)]) dL_settles_381 rfl (by decide) rfl (by omega) rfl ?_
            refine g_goto (npc := 287) dL_settles_384 (by decide) ?_
            refine Go.lsub [0, 1, 2, 3, 4, 5, 6, 7, 8, 9, 10] rfl ?_
            exact hT
          · replace hT := hTf (Decidable.not_not.mp c195)
            refine g_aload_n (npc := 339) dL_settles_338 rfl rfl rfl ?_
            refine g_iload (npc := 341) dL_settles_339 rfl rfl ?_
            obtain ⟨Q196, h197, hT⟩ := hT
            refine iv_La_19 (npc := 344) dL_settles_341 rfl rfl (Nat.le_of_ble_eq_true rfl) (by decide) (by decide) h197 (fun r199 s198 e200 => ?_)
            replace hT := hT r199 s198 e200
            refine g_istore (npc := 346) (l' := [(0, .ref 0), (1, iV x1), (2, iV x2), (3, iV x3), (5, .ref 191), (6, .ref 192), (7, iV x7), (8, iV x8), (9, iV x9), (10, .ref 193), (11, iV x11), (12, iV v176), (13, iV r199)]) dL_settles_344 rfl (by decide) rfl ?_
            refine g_aload_n (npc := 347) dL_settles_346 rfl rfl rfl ?_
            refine g_iload (npc := 349) dL_settles_347 rfl rfl ?_
            obtain ⟨Q201, h202, hT⟩ := hT
            refine iv_La_74 (npc := 352) dL_settles_349 rfl rfl (Nat.le_of_ble_eq_true rfl) (by decide) (by decide) h202 (fun r204 s203 e205 => ?_)
            replace hT := hT r204 s203 e205
            refine g_iload (npc := 354) dL_settles_352 rfl rfl ?_
            refine g_aload_n (npc := 355) dL_settles_354 rfl rfl rfl ?_
            refine g_iload (npc := 357) dL_settles_355 rfl rfl ?_
            obtain ⟨Q206, h207, hT⟩ := hT
            refine iv_La_67 (npc := 360) dL_settles_357 rfl rfl (Nat.le_of_ble_eq_true rfl) (by decide) (by decide) h207 (fun r209 s208 e210 => ?_)
            replace hT := hT r209 s208 e210
            refine g_isub (npc := 361) dL_settles_360 rfl ?_
            obtain ⟨h211, hTt, hTf⟩ := hT
            refine g_icmp_eq (npc := 364) (tgt := 366) dL_settles_361 rfl (by decide) h211 (fun c212 => ?_) (fun c212 => ?_)
            · replace hT := hTt c212
              refine g_aload (npc := 368) dL_settles_366 rfl rfl ?_
              refine g_iload (npc := 370) dL_settles_368 rfl rfl ?_
              refine g_dup2 (npc := 371) dL_settles_370 rfl rfl rfl ?_
              obtain ⟨h213, hT⟩ := hT
              refine g_iald (npc := 372) dL_settles_371 rfl (arX (by decide) (by decide)) h213 ?_
              refine g_iconst (npc := 373) dL_settles_372 rfl ?_
              refine g_iadd (npc := 374) dL_settles_373 rfl ?_
              obtain ⟨h214, hT⟩ := hT
              replace hT := hT _ rfl
              refine g_iast (npc := 375) dL_settles_374 rfl (arX (by decide) (by decide)) h214  ?_
              refine g_iinc (npc := 378) (y := (x8 + 1)) (l' := [(0, .ref 0), (1, iV x1), (2, iV x2), (3, iV x3), (5, .ref 191), (6, .ref 192), (7, iV x7), (8, iV (x8 + 1)), (9, iV x9), (10, .ref 193), (11, iV x11), (12, iV v176), (13, iV r199)]) dL_settles_375 rfl (by decide) rfl (by omega) rfl ?_
              refine g_iconst (npc := 379) dL_settles_378 rfl ?_
              refine g_istore (npc := 381) (l' := [(0, .ref 0), (1, iV x1), (2, iV x2), (3, iV x3), (5, .ref 191), (6, .ref 192), (7, iV x7), (8, iV (x8 + 1)), (9, iV 1), (10, .ref 193), (11, iV x11), (12, iV v176), (13, iV r199)]) dL_settles_379 rfl (by decide) rfl ?_
              refine g_iinc (npc := 384) (y := (x11 + 1)) (l' := [(0, .ref 0), (1, iV x1), (2, iV x2), (3, iV x3), (5, .ref 191), (6, .ref 192), (7, iV x7), (8, iV (x8 + 1)), (9, iV 1), (10, .ref 193), (11, iV (x11 + 1)), (12, iV v176), (13, iV r199)]) dL_settles_381 rfl (by decide) rfl (by omega) rfl ?_
              refine g_goto (npc := 287) dL_settles_384 (by decide) ?_
              refine Go.lsub [0, 1, 2, 3, 4, 5, 6, 7, 8, 9, 10] rfl ?_
              exact hT
            · replace hT := hTf c212
              refine g_iconst (npc := 365) dL_settles_364 rfl ?_
              exact g_iret dL_settles_365 rfl (by decide) (by decide) ⟨_, rfl, hT⟩
    obtain ⟨h178, hTt, hTf⟩ := hT
    refine g_if_ne (npc := 299) (tgt := 304) dL_settles_296 rfl (by decide) h178 (fun c179 => ?_) (fun c179 => ?_)
    · replace hT := hTt c179
      refine g_iload_n (npc := 305) dL_settles_304 rfl rfl rfl ?_
      refine g_iconst (npc := 306) dL_settles_305 rfl ?_
      refine g_isub (npc := 307) dL_settles_306 rfl ?_
      refine g_iload (npc := 309) dL_settles_307 rfl rfl ?_
      refine g_isub (npc := 310) dL_settles_309 rfl ?_
      exact K217 _ hT
    · replace hT := hTf (Decidable.not_not.mp c179)
      refine g_iload (npc := 301) dL_settles_299 rfl rfl ?_
      refine g_goto (npc := 310) dL_settles_301 (by decide) ?_
      exact K217 _ hT
set_option maxRecDepth 20000 in
theorem b_La_settles_393 {Q : Int → Sto → Prop} {x2 : Int} {x3 : Int} {x7 : Int} {x8 : Int} {x11 : Int} {s : Sto} (hT : ((-2147483648 ≤ x11 ∧ x11 < 2147483648) ∧ -2147483648 ≤ x2 ∧ x2 < 2147483648) ∧ ((x2 ≤ x11) → ∃ Q128 : Int → Sto → Prop, K_Cg_stabilize 4 s Q128 ∧ ∀ r131 s130, Q128 r131 s130 → ((-2147483648 ≤ r131 ∧ r131 < 2147483648) ∧ -2147483648 ≤ (x7 - x8) ∧ (x7 - x8) < 2147483648) ∧ ((¬ r131 = (x7 - x8)) → Q 0 s130) ∧ ((r131 = (x7 - x8)) → ∃ Q135 : Int → Sto → Prop, K_La_are 4 192 s130 Q135 ∧ ∀ r138 s137, Q135 r138 s137 → (-2147483648 ≤ r138 ∧ r138 < 2147483648) ∧ ((r138 = 0) → Q 0 s137) ∧ ((¬ r138 = 0) → ∃ Q142 : Int → Sto → Prop, K_Cg_kind 4 s137 Q142 ∧ ∀ r145 s144, Q142 r145 s144 → (-2147483648 ≤ (iand r145 1) ∧ (iand r145 1) < 2147483648) ∧ (((iand r145 1) = 0) → Q 0 s144) ∧ ((¬ (iand r145 1) = 0) → ∃ Q149 : Int → Sto → Prop, K_Cg_stabilize 4 s144 Q149 ∧ ∀ r152 s151, Q149 r152 s151 → (-2147483648 ≤ r152 ∧ r152 < 2147483648) ∧ ((r152 = 0) → H_La_settles_498 4 Q x2 x3 0 s151) ∧ ((¬ r152 = 0) → Q 0 s151))))) ∧ ((x11 < x2) → (0 ≤ x11 ∧ x11 < 8) ∧ (0 ≤ x11 ∧ x11 < 8) ∧ (0 ≤ x11 ∧ x11 < 8) ∧ ((-2147483648 ≤ (s 193 (Int.toNat x11)) ∧ (s 193 (Int.toNat x11)) < 2147483648) ∧ -2147483648 ≤ (s 191 (Int.toNat x11)) ∧ (s 191 (Int.toNat x11)) < 2147483648) ∧ (((s 191 (Int.toNat x11)) < (s 193 (Int.toNat x11))) → Q 0 s) ∧ (((s 193 (Int.toNat x11)) ≤ (s 191 (Int.toNat x11))) → ((-2147483648 ≤ x11 ∧ x11 < 2147483648) ∧ -2147483648 ≤ x3 ∧ x3 < 2147483648) ∧ ((x11 = x3) → H_La_settles_393 4 Q x2 x3 (x7 + (s 191 (Int.toNat x11))) x8 (x11 + 1) s) ∧ ((¬ x11 = x3) → ∃ Q163 : Int → Sto → Prop, K_Cg_firings 4 x11 s Q163 ∧ ∀ r166 s165, Q163 r166 s165 → (0 ≤ x11 ∧ x11 < 8) ∧ (0 ≤ x11 ∧ x11 < 8) ∧ ((-2147483648 ≤ r166 ∧ r166 < 2147483648) ∧ -2147483648 ≤ ((s165 191 (Int.toNat x11)) - (s165 193 (Int.toNat x11))) ∧ ((s165 191 (Int.toNat x11)) - (s165 193 (Int.toNat x11))) < 2147483648) ∧ ((r166 = ((s165 191 (Int.toNat x11)) - (s165 193 (Int.toNat x11)))) → H_La_settles_393 4 Q x2 x3 (x7 + (s 191 (Int.toNat x11))) x8 (x11 + 1) s165) ∧ ((¬ r166 = ((s165 191 (Int.toNat x11)) - (s165 193 (Int.toNat x11)))) → Q 0 s165))))) : H_La_settles_393 4 Q x2 x3 x7 x8 x11 s := by
  refine g_iload (npc := 395) dL_settles_393 rfl rfl ?_
  refine g_iload_n (npc := 396) dL_settles_395 rfl rfl rfl ?_
  obtain ⟨h126, hTt, hTf⟩ := hT
  refine g_icmp_ge (npc := 399) (tgt := 456) dL_settles_396 rfl (by decide) h126 (fun c127 => ?_) (fun c127 => ?_)
  · replace hT := hTt c127
    refine g_aload_n (npc := 457) dL_settles_456 rfl rfl rfl ?_
    obtain ⟨Q128, h129, hT⟩ := hT
    refine iv_La_32 (npc := 460) dL_settles_457 rfl rfl (Nat.le_of_ble_eq_true rfl) (by decide) (by decide) h129 (fun r131 s130 e132 => ?_)
    replace hT := hT r131 s130 e132
    refine g_iload (npc := 462) dL_settles_460 rfl rfl ?_
    refine g_iload (npc := 464) dL_settles_462 rfl rfl ?_
    refine g_isub (npc := 465) dL_settles_464 rfl ?_
    obtain ⟨h133, hTt, hTf⟩ := hT
    refine g_icmp_ne (npc := 468) (tgt := 493) dL_settles_465 rfl (by decide) h133 (fun c134 => ?_) (fun c134 => ?_)
    · replace hT := hTt c134
      refine g_iconst (npc := 494) dL_settles_493 rfl ?_
      exact g_iret dL_settles_494 rfl (by decide) (by decide) ⟨_, rfl, hT⟩
    · replace hT := hTf (Decidable.not_not.mp c134)
      refine g_aload_n (npc := 469) dL_settles_468 rfl rfl rfl ?_
      refine g_aload (npc := 471) dL_settles_469 rfl rfl ?_
      obtain ⟨Q135, h136, hT⟩ := hT
      refine iv_La_77 (npc := 474) dL_settles_471 rfl rfl (Nat.le_of_ble_eq_true rfl) (by decide) (by decide) h136 (fun r138 s137 e139 => ?_)
      replace hT := hT r138 s137 e139
      obtain ⟨h140, hTt, hTf⟩ := hT
      refine g_if_eq (npc := 477) (tgt := 493) dL_settles_474 rfl (by decide) h140 (fun c141 => ?_) (fun c141 => ?_)
      · replace hT := hTt c141
        refine g_iconst (npc := 494) dL_settles_493 rfl ?_
        exact g_iret dL_settles_494 rfl (by decide) (by decide) ⟨_, rfl, hT⟩
      · replace hT := hTf c141
        refine g_aload_n (npc := 478) dL_settles_477 rfl rfl rfl ?_
        obtain ⟨Q142, h143, hT⟩ := hT
        refine iv_La_49 (npc := 481) dL_settles_478 rfl rfl (Nat.le_of_ble_eq_true rfl) (by decide) (by decide) h143 (fun r145 s144 e146 => ?_)
        replace hT := hT r145 s144 e146
        refine g_iconst (npc := 482) dL_settles_481 rfl ?_
        refine g_iand (npc := 483) dL_settles_482 rfl ?_
        obtain ⟨h147, hTt, hTf⟩ := hT
        refine g_if_eq (npc := 486) (tgt := 493) dL_settles_483 rfl (by decide) h147 (fun c148 => ?_) (fun c148 => ?_)
        · replace hT := hTt c148
          refine g_iconst (npc := 494) dL_settles_493 rfl ?_
          exact g_iret dL_settles_494 rfl (by decide) (by decide) ⟨_, rfl, hT⟩
        · replace hT := hTf c148
          refine g_aload_n (npc := 487) dL_settles_486 rfl rfl rfl ?_
          obtain ⟨Q149, h150, hT⟩ := hT
          refine iv_La_32 (npc := 490) dL_settles_487 rfl rfl (Nat.le_of_ble_eq_true rfl) (by decide) (by decide) h150 (fun r152 s151 e153 => ?_)
          replace hT := hT r152 s151 e153
          obtain ⟨h154, hTt, hTf⟩ := hT
          refine g_if_eq (npc := 493) (tgt := 495) dL_settles_490 rfl (by decide) h154 (fun c155 => ?_) (fun c155 => ?_)
          · replace hT := hTt c155
            refine g_iconst (npc := 496) dL_settles_495 rfl ?_
            refine g_istore (npc := 498) (l' := [(0, .ref 0), (2, iV x2), (3, iV x3), (5, .ref 191), (6, .ref 192), (7, iV x7), (8, iV x8), (10, .ref 193), (11, iV 0)]) dL_settles_496 rfl (by decide) rfl ?_
            refine Go.lsub [0, 1, 2, 4, 8] rfl ?_
            exact hT
          · replace hT := hTf c155
            refine g_iconst (npc := 494) dL_settles_493 rfl ?_
            exact g_iret dL_settles_494 rfl (by decide) (by decide) ⟨_, rfl, hT⟩
  · replace hT := hTf (Int.not_le.mp c127)
    refine g_iload (npc := 401) dL_settles_399 rfl rfl ?_
    refine g_aload (npc := 403) dL_settles_401 rfl rfl ?_
    refine g_iload (npc := 405) dL_settles_403 rfl rfl ?_
    obtain ⟨h156, hT⟩ := hT
    refine g_iald (npc := 406) dL_settles_405 rfl (arX (by decide) (by decide)) h156 ?_
    refine g_iadd (npc := 407) dL_settles_406 rfl ?_
    refine g_istore (npc := 409) (l' := [(0, .ref 0), (2, iV x2), (3, iV x3), (5, .ref 191), (6, .ref 192), (7, iV (x7 + (s 191 (Int.toNat x11)))), (8, iV x8), (10, .ref 193), (11, iV x11)]) dL_settles_407 rfl (by decide) rfl ?_
    refine g_aload (npc := 411) dL_settles_409 rfl rfl ?_
    refine g_iload (npc := 413) dL_settles_411 rfl rfl ?_
    obtain ⟨h157, hT⟩ := hT
    refine g_iald (npc := 414) dL_settles_413 rfl (arX (by decide) (by decide)) h157 ?_
    refine g_aload (npc := 416) dL_settles_414 rfl rfl ?_
    refine g_iload (npc := 418) dL_settles_416 rfl rfl ?_
    obtain ⟨h158, hT⟩ := hT
    refine g_iald (npc := 419) dL_settles_418 rfl (arX (by decide) (by decide)) h158 ?_
    obtain ⟨h159, hTt, hTf⟩ := hT
    refine g_icmp_gt (npc := 422) (tgt := 448) dL_settles_419 rfl (by decide) h159 (fun c160 => ?_) (fun c160 => ?_)
    · replace hT := hTt c160
      refine g_iconst (npc := 449) dL_settles_448 rfl ?_
      exact g_iret dL_settles_449 rfl (by decide) (by decide) ⟨_, rfl, hT⟩
    · replace hT := hTf (Int.not_lt.mp c160)
      refine g_iload (npc := 424) dL_settles_422 rfl rfl ?_
      refine g_iload_n (npc := 425) dL_settles_424 rfl rfl rfl ?_
      obtain ⟨h161, hTt, hTf⟩ := hT
      refine g_icmp_eq (npc := 428) (tgt := 450) dL_settles_425 rfl (by decide) h161 (fun c162 => ?_) (fun c162 => ?_)
      · replace hT := hTt c162
        refine g_iinc (npc := 453) (y := (x11 + 1)) (l' := [(0, .ref 0), (2, iV x2), (3, iV x3), (5, .ref 191), (6, .ref 192), (7, iV (x7 + (s 191 (Int.toNat x11)))), (8, iV x8), (10, .ref 193), (11, iV (x11 + 1))]) dL_settles_450 rfl (by decide) rfl (by omega) rfl ?_
        refine g_goto (npc := 393) dL_settles_453 (by decide) ?_
        exact hT
      · replace hT := hTf c162
        refine g_aload_n (npc := 429) dL_settles_428 rfl rfl rfl ?_
        refine g_iload (npc := 431) dL_settles_429 rfl rfl ?_
        obtain ⟨Q163, h164, hT⟩ := hT
        refine iv_La_64 (npc := 434) dL_settles_431 rfl rfl (Nat.le_of_ble_eq_true rfl) (by decide) (by decide) h164 (fun r166 s165 e167 => ?_)
        replace hT := hT r166 s165 e167
        refine g_aload (npc := 436) dL_settles_434 rfl rfl ?_
        refine g_iload (npc := 438) dL_settles_436 rfl rfl ?_
        obtain ⟨h168, hT⟩ := hT
        refine g_iald (npc := 439) dL_settles_438 rfl (arX (by decide) (by decide)) h168 ?_
        refine g_aload (npc := 441) dL_settles_439 rfl rfl ?_
        refine g_iload (npc := 443) dL_settles_441 rfl rfl ?_
        obtain ⟨h169, hT⟩ := hT
        refine g_iald (npc := 444) dL_settles_443 rfl (arX (by decide) (by decide)) h169 ?_
        refine g_isub (npc := 445) dL_settles_444 rfl ?_
        obtain ⟨h170, hTt, hTf⟩ := hT
        refine g_icmp_eq (npc := 448) (tgt := 450) dL_settles_445 rfl (by decide) h170 (fun c171 => ?_) (fun c171 => ?_)
        · replace hT := hTt c171
          refine g_iinc (npc := 453) (y := (x11 + 1)) (l' := [(0, .ref 0), (2, iV x2), (3, iV x3), (5, .ref 191), (6, .ref 192), (7, iV (x7 + (s 191 (Int.toNat x11)))), (8, iV x8), (10, .ref 193), (11, iV (x11 + 1))]) dL_settles_450 rfl (by decide) rfl (by omega) rfl ?_
          refine g_goto (npc := 393) dL_settles_453 (by decide) ?_
          exact hT
        · replace hT := hTf c171
          refine g_iconst (npc := 449) dL_settles_448 rfl ?_
          exact g_iret dL_settles_449 rfl (by decide) (by decide) ⟨_, rfl, hT⟩
set_option maxRecDepth 20000 in
theorem b_La_settles_498 {Q : Int → Sto → Prop} {x2 : Int} {x3 : Int} {x11 : Int} {s : Sto} (hT : ((-2147483648 ≤ x11 ∧ x11 < 2147483648) ∧ -2147483648 ≤ x2 ∧ x2 < 2147483648) ∧ ((x2 ≤ x11) → Q 1 s) ∧ ((x11 < x2) → ((-2147483648 ≤ x11 ∧ x11 < 2147483648) ∧ -2147483648 ≤ x3 ∧ x3 < 2147483648) ∧ ((x11 = x3) → H_La_settles_498 4 Q x2 x3 (x11 + 1) s) ∧ ((¬ x11 = x3) → (0 ≤ x11 ∧ x11 < 8) ∧ (-2147483648 ≤ (s 192 (Int.toNat x11)) ∧ (s 192 (Int.toNat x11)) < 2147483648) ∧ (((s 192 (Int.toNat x11)) < 0) → Q 0 s) ∧ ((0 ≤ (s 192 (Int.toNat x11))) → (0 ≤ x11 ∧ x11 < 8) ∧ ∃ Q227 : Int → Sto → Prop, K_Cg_degree 4 x11 s Q227 ∧ ∀ r230 s229, Q227 r230 s229 → ((-2147483648 ≤ (s 192 (Int.toNat x11)) ∧ (s 192 (Int.toNat x11)) < 2147483648) ∧ -2147483648 ≤ r230 ∧ r230 < 2147483648) ∧ ((r230 ≤ (s 192 (Int.toNat x11))) → Q 0 s229) ∧ (((s 192 (Int.toNat x11)) < r230) → ∃ Q234 : Int → Sto → Prop, K_Cg_fire 4 x11 s229 Q234 ∧ ∀ r237 s236, Q234 r237 s236 → (-2147483648 ≤ r237 ∧ r237 < 2147483648) ∧ ((r237 = (-10004)) → H_La_settles_498 4 Q x2 x3 (x11 + 1) s236) ∧ ((¬ r237 = (-10004)) → Q 0 s236)))))) : H_La_settles_498 4 Q x2 x3 x11 s := by
  refine g_iload (npc := 500) dL_settles_498 rfl rfl ?_
  refine g_iload_n (npc := 501) dL_settles_500 rfl rfl rfl ?_
  obtain ⟨h219, hTt, hTf⟩ := hT
  refine g_icmp_ge (npc := 504) (tgt := 552) dL_settles_501 rfl (by decide) h219 (fun c220 => ?_) (fun c220 => ?_)
  · replace hT := hTt c220
    refine g_iconst (npc := 553) dL_settles_552 rfl ?_
    exact g_iret dL_settles_553 rfl (by decide) (by decide) ⟨_, rfl, hT⟩
  · replace hT := hTf (Int.not_le.mp c220)
    refine g_iload (npc := 506) dL_settles_504 rfl rfl ?_
    refine g_iload_n (npc := 507) dL_settles_506 rfl rfl rfl ?_
    obtain ⟨h221, hTt, hTf⟩ := hT
    refine g_icmp_eq (npc := 510) (tgt := 546) dL_settles_507 rfl (by decide) h221 (fun c222 => ?_) (fun c222 => ?_)
    · replace hT := hTt c222
      refine g_iinc (npc := 549) (y := (x11 + 1)) (l' := [(0, .ref 0), (2, iV x2), (3, iV x3), (6, .ref 192), (11, iV (x11 + 1))]) dL_settles_546 rfl (by decide) rfl (by omega) rfl ?_
      refine g_goto (npc := 498) dL_settles_549 (by decide) ?_
      exact hT
    · replace hT := hTf c222
      refine g_aload (npc := 512) dL_settles_510 rfl rfl ?_
      refine g_iload (npc := 514) dL_settles_512 rfl rfl ?_
      obtain ⟨h223, hT⟩ := hT
      refine g_iald (npc := 515) dL_settles_514 rfl (arX (by decide) (by decide)) h223 ?_
      obtain ⟨h224, hTt, hTf⟩ := hT
      refine g_if_lt (npc := 518) (tgt := 544) dL_settles_515 rfl (by decide) h224 (fun c225 => ?_) (fun c225 => ?_)
      · replace hT := hTt c225
        refine g_iconst (npc := 545) dL_settles_544 rfl ?_
        exact g_iret dL_settles_545 rfl (by decide) (by decide) ⟨_, rfl, hT⟩
      · replace hT := hTf (Int.not_lt.mp c225)
        refine g_aload (npc := 520) dL_settles_518 rfl rfl ?_
        refine g_iload (npc := 522) dL_settles_520 rfl rfl ?_
        obtain ⟨h226, hT⟩ := hT
        refine g_iald (npc := 523) dL_settles_522 rfl (arX (by decide) (by decide)) h226 ?_
        refine g_aload_n (npc := 524) dL_settles_523 rfl rfl rfl ?_
        refine g_iload (npc := 526) dL_settles_524 rfl rfl ?_
        obtain ⟨Q227, h228, hT⟩ := hT
        refine iv_La_67 (npc := 529) dL_settles_526 rfl rfl (Nat.le_of_ble_eq_true rfl) (by decide) (by decide) h228 (fun r230 s229 e231 => ?_)
        replace hT := hT r230 s229 e231
        obtain ⟨h232, hTt, hTf⟩ := hT
        refine g_icmp_ge (npc := 532) (tgt := 544) dL_settles_529 rfl (by decide) h232 (fun c233 => ?_) (fun c233 => ?_)
        · replace hT := hTt c233
          refine g_iconst (npc := 545) dL_settles_544 rfl ?_
          exact g_iret dL_settles_545 rfl (by decide) (by decide) ⟨_, rfl, hT⟩
        · replace hT := hTf (Int.not_le.mp c233)
          refine g_aload_n (npc := 533) dL_settles_532 rfl rfl rfl ?_
          refine g_iload (npc := 535) dL_settles_533 rfl rfl ?_
          obtain ⟨Q234, h235, hT⟩ := hT
          refine iv_La_74 (npc := 538) dL_settles_535 rfl rfl (Nat.le_of_ble_eq_true rfl) (by decide) (by decide) h235 (fun r237 s236 e238 => ?_)
          replace hT := hT r237 s236 e238
          refine g_sipush (npc := 541) (x := (-10004)) dL_settles_538 rfl (by decide) ?_
          obtain ⟨h239, hTt, hTf⟩ := hT
          refine g_icmp_eq (npc := 544) (tgt := 546) dL_settles_541 rfl (by decide) ⟨h239, by decide, by decide⟩ (fun c240 => ?_) (fun c240 => ?_)
          · replace hT := hTt c240
            refine g_iinc (npc := 549) (y := (x11 + 1)) (l' := [(0, .ref 0), (2, iV x2), (3, iV x3), (6, .ref 192), (11, iV (x11 + 1))]) dL_settles_546 rfl (by decide) rfl (by omega) rfl ?_
            refine g_goto (npc := 498) dL_settles_549 (by decide) ?_
            exact hT
          · replace hT := hTf c240
            refine g_iconst (npc := 545) dL_settles_544 rfl ?_
            exact g_iret dL_settles_545 rfl (by decide) (by decide) ⟨_, rfl, hT⟩
set_option maxRecDepth 20000 in
theorem e_La_settles {x1 : Int} {s : Sto} {Q : Int → Sto → Prop} (hT : ∃ Q1 : Int → Sto → Prop, K_Cg_value 0 0 s Q1 ∧ ∀ r4 s3, Q1 r4 s3 → ∃ Q6 : Int → Sto → Prop, K_Cg_value 0 2 s3 Q6 ∧ ∀ r9 s8, Q6 r9 s8 → ∀ s11, s11 = zr s8 190 → ∀ s12, s12 = zr s11 191 → ∀ s13, s13 = zr s12 192 → ∃ Q14 : Sto → Prop, K_La_read 3 190 s13 Q14 ∧ ∀ s16, Q14 s16 → ∃ Q19 : Int → Sto → Prop, K_Cg_value 3 3 s16 Q19 ∧ ∀ r22 s21, Q19 r22 s21 → (-2147483648 ≤ r22 ∧ r22 < 2147483648) ∧ ((¬ r22 = 0) → H_La_settles_145 3 Q x1 r4 r9 0 s21) ∧ ((r22 = 0) → ∃ Q26 : Int → Sto → Prop, K_Cg_stabilize 3 s21 Q26 ∧ ∀ r29 s28, Q26 r29 s28 → (-2147483648 ≤ r29 ∧ r29 < 2147483648) ∧ ((¬ r29 = (-10003)) → Q 0 s28) ∧ ((r29 = (-10003)) → ∃ Q33 : Int → Sto → Prop, K_Cg_reduce 3 s28 Q33 ∧ ∀ r36 s35, Q33 r36 s35 → (-2147483648 ≤ r36 ∧ r36 < 2147483648) ∧ ((¬ r36 = (-10003)) → Q 0 s35) ∧ ((r36 = (-10003)) → ∃ Q40 : Int → Sto → Prop, K_Cg_makeRecurrent 3 s35 Q40 ∧ ∀ r43 s42, Q40 r43 s42 → (-2147483648 ≤ r43 ∧ r43 < 2147483648) ∧ ((¬ r43 = (-10003)) → Q 0 s42) ∧ ((r43 = (-10003)) → ∃ Q47 : Int → Sto → Prop, K_Cg_order 3 s42 Q47 ∧ ∀ r50 s49, Q47 r50 s49 → (-2147483648 ≤ r50 ∧ r50 < 2147483648) ∧ ((¬ r50 = (-10003)) → Q 0 s49) ∧ ((r50 = (-10003)) → ∃ Q54 : Int → Sto → Prop, K_Cg_treeCount 3 s49 Q54 ∧ ∀ r57 s56, Q54 r57 s56 → (-9223372036854775808 ≤ r57 ∧ r57 < 9223372036854775808) ∧ ((¬ r57 = 0) → Q 0 s56) ∧ ((r57 = 0) → ∃ Q61 : Int → Sto → Prop, K_Cg_kind 3 s56 Q61 ∧ ∀ r64 s63, Q61 r64 s63 → (-2147483648 ≤ (iand r64 6) ∧ (iand r64 6) < 2147483648) ∧ ((¬ (iand r64 6) = 0) → Q 0 s63) ∧ (((iand r64 6) = 0) → ∃ Q68 : Int → Sto → Prop, K_Cg_factor 3 (-1) s63 Q68 ∧ ∀ r71 s70, Q68 r71 s70 → (-9223372036854775808 ≤ r71 ∧ r71 < 9223372036854775808) ∧ (((-1) ≤ r71) → Q 0 s70) ∧ ((r71 < (-1)) → ∃ Q75 : Int → Sto → Prop, K_Cg_levelCount 3 0 s70 Q75 ∧ ∀ r78 s77, Q75 r78 s77 → (-2147483648 ≤ r78 ∧ r78 < 2147483648) ∧ ((¬ r78 = (-10003)) → Q 0 s77) ∧ ((r78 = (-10003)) → ∃ Q82 : Int → Sto → Prop, K_Cg_tree 3 s77 Q82 ∧ ∀ r85 s84, Q82 r85 s84 → (-2147483648 ≤ r85 ∧ r85 < 2147483648) ∧ ((¬ r85 = (-10004)) → Q 0 s84) ∧ ((r85 = (-10004)) → Q 1 s84))))))))))) : K_La_settles 0 x1 s Q := by
  refine Sp.body (by decide +kernel) (Nat.le_of_ble_eq_true rfl) ?_
  show Go (SL 0) M_La_settles (fI Q) 0 0 0 [(0, .ref 0), (1, iV x1)] [] s
  refine g_aload_n (npc := 1) dL_settles_0 rfl rfl rfl ?_
  refine g_iconst (npc := 2) dL_settles_1 rfl ?_
  obtain ⟨Q1, h2, hT⟩ := hT
  refine iv_La_9 (npc := 5) dL_settles_2 rfl rfl (Nat.le_of_ble_eq_true rfl) (by decide) (by decide) h2 (fun r4 s3 e5 => ?_)
  replace hT := hT r4 s3 e5
  refine g_istore_n (npc := 6) (l' := [(0, .ref 0), (1, iV x1), (2, iV r4)]) dL_settles_5 rfl rfl (by decide) rfl ?_
  refine g_aload_n (npc := 7) dL_settles_6 rfl rfl rfl ?_
  refine g_iconst (npc := 8) dL_settles_7 rfl ?_
  obtain ⟨Q6, h7, hT⟩ := hT
  refine iv_La_9 (npc := 11) dL_settles_8 rfl rfl (Nat.le_of_ble_eq_true rfl) (by decide) (by decide) h7 (fun r9 s8 e10 => ?_)
  replace hT := hT r9 s8 e10
  refine g_istore_n (npc := 12) (l' := [(0, .ref 0), (1, iV x1), (2, iV r4), (3, iV r9)]) dL_settles_11 rfl rfl (by decide) rfl ?_
  refine g_bipush (npc := 14) (x := 8) dL_settles_12 rfl (by decide) ?_
  replace hT := hT _ rfl
  refine g_newI (npc := 16) (n := 0) dL_settles_14 rfl tw_newI (by decide) (by decide) (fI_nr _) rfl rfl ?_
  refine g_astore (npc := 18) (l' := [(0, .ref 0), (1, iV x1), (2, iV r4), (3, iV r9), (4, .ref 190)]) dL_settles_16 rfl (by decide) rfl ?_
  refine g_bipush (npc := 20) (x := 8) dL_settles_18 rfl (by decide) ?_
  replace hT := hT _ rfl
  refine g_newI (npc := 22) (n := 1) dL_settles_20 rfl tw_newI (by decide) (by decide) (fI_nr _) rfl rfl ?_
  refine g_astore (npc := 24) (l' := [(0, .ref 0), (1, iV x1), (2, iV r4), (3, iV r9), (4, .ref 190), (5, .ref 191)]) dL_settles_22 rfl (by decide) rfl ?_
  refine g_bipush (npc := 26) (x := 8) dL_settles_24 rfl (by decide) ?_
  replace hT := hT _ rfl
  refine g_newI (npc := 28) (n := 2) dL_settles_26 rfl tw_newI (by decide) (by decide) (fI_nr _) rfl rfl ?_
  refine g_astore (npc := 30) (l' := [(0, .ref 0), (1, iV x1), (2, iV r4), (3, iV r9), (4, .ref 190), (5, .ref 191), (6, .ref 192)]) dL_settles_28 rfl (by decide) rfl ?_
  refine g_aload_n (npc := 31) dL_settles_30 rfl rfl rfl ?_
  refine g_aload (npc := 33) dL_settles_31 rfl rfl ?_
  obtain ⟨Q14, h15, hT⟩ := hT
  refine iv_La_26 (npc := 36) dL_settles_33 rfl rfl (Nat.le_of_ble_eq_true rfl) (by decide) (by decide) h15 (fun s16 e18 => ?_)
  replace hT := hT s16 e18
  refine g_aload_n (npc := 37) dL_settles_36 rfl rfl rfl ?_
  refine g_iconst (npc := 38) dL_settles_37 rfl ?_
  obtain ⟨Q19, h20, hT⟩ := hT
  refine iv_La_9 (npc := 41) dL_settles_38 rfl rfl (Nat.le_of_ble_eq_true rfl) (by decide) (by decide) h20 (fun r22 s21 e23 => ?_)
  replace hT := hT r22 s21 e23
  obtain ⟨h24, hTt, hTf⟩ := hT
  refine g_if_ne (npc := 44) (tgt := 142) dL_settles_41 rfl (by decide) h24 (fun c25 => ?_) (fun c25 => ?_)
  · replace hT := hTt c25
    refine g_iconst (npc := 143) dL_settles_142 rfl ?_
    refine g_istore (npc := 145) (l' := [(0, .ref 0), (1, iV x1), (2, iV r4), (3, iV r9), (4, .ref 190), (5, .ref 191), (6, .ref 192), (7, iV 0)]) dL_settles_143 rfl (by decide) rfl ?_
    exact hT
  · replace hT := hTf (Decidable.not_not.mp c25)
    refine g_aload_n (npc := 45) dL_settles_44 rfl rfl rfl ?_
    obtain ⟨Q26, h27, hT⟩ := hT
    refine iv_La_32 (npc := 48) dL_settles_45 rfl rfl (Nat.le_of_ble_eq_true rfl) (by decide) (by decide) h27 (fun r29 s28 e30 => ?_)
    replace hT := hT r29 s28 e30
    refine g_sipush (npc := 51) (x := (-10003)) dL_settles_48 rfl (by decide) ?_
    obtain ⟨h31, hTt, hTf⟩ := hT
    refine g_icmp_ne (npc := 54) (tgt := 140) dL_settles_51 rfl (by decide) ⟨h31, by decide, by decide⟩ (fun c32 => ?_) (fun c32 => ?_)
    · replace hT := hTt c32
      refine g_iconst (npc := 141) dL_settles_140 rfl ?_
      exact g_iret dL_settles_141 rfl (by decide) (by decide) ⟨_, rfl, hT⟩
    · replace hT := hTf (Decidable.not_not.mp c32)
      refine g_aload_n (npc := 55) dL_settles_54 rfl rfl rfl ?_
      obtain ⟨Q33, h34, hT⟩ := hT
      refine iv_La_36 (npc := 58) dL_settles_55 rfl rfl (Nat.le_of_ble_eq_true rfl) (by decide) (by decide) h34 (fun r36 s35 e37 => ?_)
      replace hT := hT r36 s35 e37
      refine g_sipush (npc := 61) (x := (-10003)) dL_settles_58 rfl (by decide) ?_
      obtain ⟨h38, hTt, hTf⟩ := hT
      refine g_icmp_ne (npc := 64) (tgt := 140) dL_settles_61 rfl (by decide) ⟨h38, by decide, by decide⟩ (fun c39 => ?_) (fun c39 => ?_)
      · replace hT := hTt c39
        refine g_iconst (npc := 141) dL_settles_140 rfl ?_
        exact g_iret dL_settles_141 rfl (by decide) (by decide) ⟨_, rfl, hT⟩
      · replace hT := hTf (Decidable.not_not.mp c39)
        refine g_aload_n (npc := 65) dL_settles_64 rfl rfl rfl ?_
        obtain ⟨Q40, h41, hT⟩ := hT
        refine iv_La_39 (npc := 68) dL_settles_65 rfl rfl (Nat.le_of_ble_eq_true rfl) (by decide) (by decide) h41 (fun r43 s42 e44 => ?_)
        replace hT := hT r43 s42 e44
        refine g_sipush (npc := 71) (x := (-10003)) dL_settles_68 rfl (by decide) ?_
        obtain ⟨h45, hTt, hTf⟩ := hT
        refine g_icmp_ne (npc := 74) (tgt := 140) dL_settles_71 rfl (by decide) ⟨h45, by decide, by decide⟩ (fun c46 => ?_) (fun c46 => ?_)
        · replace hT := hTt c46
          refine g_iconst (npc := 141) dL_settles_140 rfl ?_
          exact g_iret dL_settles_141 rfl (by decide) (by decide) ⟨_, rfl, hT⟩
        · replace hT := hTf (Decidable.not_not.mp c46)
          refine g_aload_n (npc := 75) dL_settles_74 rfl rfl rfl ?_
          obtain ⟨Q47, h48, hT⟩ := hT
          refine iv_La_42 (npc := 78) dL_settles_75 rfl rfl (Nat.le_of_ble_eq_true rfl) (by decide) (by decide) h48 (fun r50 s49 e51 => ?_)
          replace hT := hT r50 s49 e51
          refine g_sipush (npc := 81) (x := (-10003)) dL_settles_78 rfl (by decide) ?_
          obtain ⟨h52, hTt, hTf⟩ := hT
          refine g_icmp_ne (npc := 84) (tgt := 140) dL_settles_81 rfl (by decide) ⟨h52, by decide, by decide⟩ (fun c53 => ?_) (fun c53 => ?_)
          · replace hT := hTt c53
            refine g_iconst (npc := 141) dL_settles_140 rfl ?_
            exact g_iret dL_settles_141 rfl (by decide) (by decide) ⟨_, rfl, hT⟩
          · replace hT := hTf (Decidable.not_not.mp c53)
            refine g_aload_n (npc := 85) dL_settles_84 rfl rfl rfl ?_
            obtain ⟨Q54, h55, hT⟩ := hT
            refine iv_La_45 (npc := 88) dL_settles_85 rfl rfl (Nat.le_of_ble_eq_true rfl) (by decide) (by decide) h55 (fun r57 s56 e58 => ?_)
            replace hT := hT r57 s56 e58
            refine g_lconst (npc := 89) (x := 0) dL_settles_88 rfl (by decide) ?_
            obtain ⟨h59, hTt, hTf⟩ := hT
            refine g_lne (pc2 := 90) (npc := 93) (tgt := 140) dL_settles_89 rfl dL_settles_90 rfl (by decide) ⟨h59, by decide, by decide⟩ (fun c60 => ?_) (fun c60 => ?_)
            · replace hT := hTt c60
              refine g_iconst (npc := 141) dL_settles_140 rfl ?_
              exact g_iret dL_settles_141 rfl (by decide) (by decide) ⟨_, rfl, hT⟩
            · replace hT := hTf (Decidable.not_not.mp c60)
              refine g_aload_n (npc := 94) dL_settles_93 rfl rfl rfl ?_
              obtain ⟨Q61, h62, hT⟩ := hT
              refine iv_La_49 (npc := 97) dL_settles_94 rfl rfl (Nat.le_of_ble_eq_true rfl) (by decide) (by decide) h62 (fun r64 s63 e65 => ?_)
              replace hT := hT r64 s63 e65
              refine g_bipush (npc := 99) (x := 6) dL_settles_97 rfl (by decide) ?_
              refine g_iand (npc := 100) dL_settles_99 rfl ?_
              obtain ⟨h66, hTt, hTf⟩ := hT
              refine g_if_ne (npc := 103) (tgt := 140) dL_settles_100 rfl (by decide) h66 (fun c67 => ?_) (fun c67 => ?_)
              · replace hT := hTt c67
                refine g_iconst (npc := 141) dL_settles_140 rfl ?_
                exact g_iret dL_settles_141 rfl (by decide) (by decide) ⟨_, rfl, hT⟩
              · replace hT := hTf (Decidable.not_not.mp c67)
                refine g_aload_n (npc := 104) dL_settles_103 rfl rfl rfl ?_
                refine g_iconst (npc := 105) dL_settles_104 rfl ?_
                obtain ⟨Q68, h69, hT⟩ := hT
                refine iv_La_52 (npc := 108) dL_settles_105 rfl rfl (Nat.le_of_ble_eq_true rfl) (by decide) (by decide) h69 (fun r71 s70 e72 => ?_)
                replace hT := hT r71 s70 e72
                refine g_ldc2 (npc := 111) (x := (-1)) dL_settles_108 rfl tw_626 ?_
                obtain ⟨h73, hTt, hTf⟩ := hT
                refine g_lge (pc2 := 112) (npc := 115) (tgt := 140) dL_settles_111 rfl dL_settles_112 rfl (by decide) ⟨h73, by decide, by decide⟩ (fun c74 => ?_) (fun c74 => ?_)
                · replace hT := hTt c74
                  refine g_iconst (npc := 141) dL_settles_140 rfl ?_
                  exact g_iret dL_settles_141 rfl (by decide) (by decide) ⟨_, rfl, hT⟩
                · replace hT := hTf (Int.not_le.mp c74)
                  refine g_aload_n (npc := 116) dL_settles_115 rfl rfl rfl ?_
                  refine g_iconst (npc := 117) dL_settles_116 rfl ?_
                  obtain ⟨Q75, h76, hT⟩ := hT
                  refine iv_La_58 (npc := 120) dL_settles_117 rfl rfl (Nat.le_of_ble_eq_true rfl) (by decide) (by decide) h76 (fun r78 s77 e79 => ?_)
                  replace hT := hT r78 s77 e79
                  refine g_sipush (npc := 123) (x := (-10003)) dL_settles_120 rfl (by decide) ?_
                  obtain ⟨h80, hTt, hTf⟩ := hT
                  refine g_icmp_ne (npc := 126) (tgt := 140) dL_settles_123 rfl (by decide) ⟨h80, by decide, by decide⟩ (fun c81 => ?_) (fun c81 => ?_)
                  · replace hT := hTt c81
                    refine g_iconst (npc := 141) dL_settles_140 rfl ?_
                    exact g_iret dL_settles_141 rfl (by decide) (by decide) ⟨_, rfl, hT⟩
                  · replace hT := hTf (Decidable.not_not.mp c81)
                    refine g_aload_n (npc := 127) dL_settles_126 rfl rfl rfl ?_
                    obtain ⟨Q82, h83, hT⟩ := hT
                    refine iv_La_61 (npc := 130) dL_settles_127 rfl rfl (Nat.le_of_ble_eq_true rfl) (by decide) (by decide) h83 (fun r85 s84 e86 => ?_)
                    replace hT := hT r85 s84 e86
                    refine g_sipush (npc := 133) (x := (-10004)) dL_settles_130 rfl (by decide) ?_
                    obtain ⟨h87, hTt, hTf⟩ := hT
                    refine g_icmp_ne (npc := 136) (tgt := 140) dL_settles_133 rfl (by decide) ⟨h87, by decide, by decide⟩ (fun c88 => ?_) (fun c88 => ?_)
                    · replace hT := hTt c88
                      refine g_iconst (npc := 141) dL_settles_140 rfl ?_
                      exact g_iret dL_settles_141 rfl (by decide) (by decide) ⟨_, rfl, hT⟩
                    · replace hT := hTf (Decidable.not_not.mp c88)
                      refine g_iconst (npc := 137) dL_settles_136 rfl ?_
                      refine g_goto (npc := 141) dL_settles_137 (by decide) ?_
                      exact g_iret dL_settles_141 rfl (by decide) (by decide) ⟨_, rfl, hT⟩
abbrev H_La_lay_2 (n : Nat) (Q : Sto → Prop) (k1 : Nat) (x2 : Int) (s : Sto) : Prop := Go (SL n) M_La_lay (fV0 Q) 0 0 2 [(0, .ref 0), (1, .ref k1), (2, iV x2)] [] s
set_option maxRecDepth 20000 in
theorem b_La_lay_2 {n : Nat} {Q : Sto → Prop} {k1 : Nat} {x2 : Int} (hk1 : ar (SL n) k1 1 8) {s : Sto} (hT : ∃ Q1 : Int → Sto → Prop, K_Cg_value n 0 s Q1 ∧ ∀ r4 s3, Q1 r4 s3 → ((-2147483648 ≤ x2 ∧ x2 < 2147483648) ∧ -2147483648 ≤ r4 ∧ r4 < 2147483648) ∧ ((r4 ≤ x2) → Q s3) ∧ ((x2 < r4) → ∃ Q8 : Int → Sto → Prop, K_Cg_value n 2 s3 Q8 ∧ ∀ r11 s10, Q8 r11 s10 → ((-2147483648 ≤ x2 ∧ x2 < 2147483648) ∧ -2147483648 ≤ r11 ∧ r11 < 2147483648) ∧ ((x2 = r11) → H_La_lay_2 n Q k1 (x2 + 1) s10) ∧ ((¬ x2 = r11) → (0 ≤ x2 ∧ x2 < 8) ∧ ∃ Q16 : Int → Sto → Prop, K_Cg_setChips n x2 (s10 k1 (Int.toNat x2)) s10 Q16 ∧ ∀ r19 s18, Q16 r19 s18 → H_La_lay_2 n Q k1 (x2 + 1) s18))) : H_La_lay_2 n Q k1 x2 s := by
  refine g_iload_n (npc := 3) dL_lay_2 rfl rfl rfl ?_
  refine g_aload_n (npc := 4) dL_lay_3 rfl rfl rfl ?_
  refine g_iconst (npc := 5) dL_lay_4 rfl ?_
  obtain ⟨Q1, h2, hT⟩ := hT
  refine iv_La_9 (npc := 8) dL_lay_5 rfl rfl (Nat.le_of_ble_eq_true rfl) (by decide) (by decide) h2 (fun r4 s3 e5 => ?_)
  replace hT := hT r4 s3 e5
  obtain ⟨h6, hTt, hTf⟩ := hT
  refine g_icmp_ge (npc := 11) (tgt := 35) dL_lay_8 rfl (by decide) h6 (fun c7 => ?_) (fun c7 => ?_)
  · replace hT := hTt c7
    exact g_ret dL_lay_35 rfl (by decide) ⟨rfl, hT⟩
  · replace hT := hTf (Int.not_le.mp c7)
    refine g_iload_n (npc := 12) dL_lay_11 rfl rfl rfl ?_
    refine g_aload_n (npc := 13) dL_lay_12 rfl rfl rfl ?_
    refine g_iconst (npc := 14) dL_lay_13 rfl ?_
    obtain ⟨Q8, h9, hT⟩ := hT
    refine iv_La_9 (npc := 17) dL_lay_14 rfl rfl (Nat.le_of_ble_eq_true rfl) (by decide) (by decide) h9 (fun r11 s10 e12 => ?_)
    replace hT := hT r11 s10 e12
    obtain ⟨h13, hTt, hTf⟩ := hT
    refine g_icmp_eq (npc := 20) (tgt := 29) dL_lay_17 rfl (by decide) h13 (fun c14 => ?_) (fun c14 => ?_)
    · replace hT := hTt c14
      refine g_iinc (npc := 32) (y := (x2 + 1)) (l' := [(0, .ref 0), (1, .ref k1), (2, iV (x2 + 1))]) dL_lay_29 rfl (by decide) rfl (by omega) rfl ?_
      refine g_goto (npc := 2) dL_lay_32 (by decide) ?_
      exact hT
    · replace hT := hTf c14
      refine g_aload_n (npc := 21) dL_lay_20 rfl rfl rfl ?_
      refine g_iload_n (npc := 22) dL_lay_21 rfl rfl rfl ?_
      refine g_aload_n (npc := 23) dL_lay_22 rfl rfl rfl ?_
      refine g_iload_n (npc := 24) dL_lay_23 rfl rfl rfl ?_
      obtain ⟨h15, hT⟩ := hT
      refine g_iald (npc := 25) dL_lay_24 rfl hk1 h15 ?_
      obtain ⟨Q16, h17, hT⟩ := hT
      refine iv_La_22 (npc := 28) dL_lay_25 rfl rfl (Nat.le_of_ble_eq_true rfl) (by decide) (by decide) h17 (fun r19 s18 e20 => ?_)
      replace hT := hT r19 s18 e20
      refine g_pop (npc := 29) dL_lay_28 rfl rfl ?_
      refine g_iinc (npc := 32) (y := (x2 + 1)) (l' := [(0, .ref 0), (1, .ref k1), (2, iV (x2 + 1))]) dL_lay_29 rfl (by decide) rfl (by omega) rfl ?_
      refine g_goto (npc := 2) dL_lay_32 (by decide) ?_
      exact hT
set_option maxRecDepth 20000 in
theorem e_La_lay {n : Nat} {k1 : Nat} (hk1 : ar (SL n) k1 1 8) {s : Sto} {Q : Sto → Prop} (hT : H_La_lay_2 n Q k1 0 s) : K_La_lay n k1 s Q := by
  refine Sp.body (by decide +kernel) (Nat.le_of_ble_eq_true rfl) ?_
  show Go (SL n) M_La_lay (fV0 Q) 0 0 0 [(0, .ref 0), (1, .ref k1)] [] s
  refine g_iconst (npc := 1) dL_lay_0 rfl ?_
  refine g_istore_n (npc := 2) (l' := [(0, .ref 0), (1, .ref k1), (2, iV 0)]) dL_lay_1 rfl rfl (by decide) rfl ?_
  exact hT
abbrev H_La_sumOf_4 (n : Nat) (Q : Int → Sto → Prop) (k0 : Nat) (x1 : Int) (x2 : Int) (s : Sto) : Prop := Go (SL n) M_La_sumOf (fI Q) 0 0 4 [(0, .ref k0), (1, iV x1), (2, iV x2)] [] s
set_option maxRecDepth 20000 in
theorem b_La_sumOf_4 {n : Nat} {Q : Int → Sto → Prop} {k0 : Nat} {x1 : Int} {x2 : Int} (hk0 : ar (SL n) k0 1 8) {s : Sto} (hT : (-2147483648 ≤ x2 ∧ x2 < 2147483648) ∧ ((8 ≤ x2) → Q x1 s) ∧ ((x2 < 8) → (0 ≤ x2 ∧ x2 < 8) ∧ H_La_sumOf_4 n Q k0 (x1 + (s k0 (Int.toNat x2))) (x2 + 1) s)) : H_La_sumOf_4 n Q k0 x1 x2 s := by
  refine g_iload_n (npc := 5) dL_sumOf_4 rfl rfl rfl ?_
  refine g_bipush (npc := 7) (x := 8) dL_sumOf_5 rfl (by decide) ?_
  obtain ⟨h1, hTt, hTf⟩ := hT
  refine g_icmp_ge (npc := 10) (tgt := 22) dL_sumOf_7 rfl (by decide) ⟨h1, by decide, by decide⟩ (fun c2 => ?_) (fun c2 => ?_)
  · replace hT := hTt c2
    refine g_iload_n (npc := 23) dL_sumOf_22 rfl rfl rfl ?_
    exact g_iret dL_sumOf_23 rfl rfl (by decide) ⟨_, rfl, hT⟩
  · replace hT := hTf (Int.not_le.mp c2)
    refine g_iload_n (npc := 11) dL_sumOf_10 rfl rfl rfl ?_
    refine g_aload_n (npc := 12) dL_sumOf_11 rfl rfl rfl ?_
    refine g_iload_n (npc := 13) dL_sumOf_12 rfl rfl rfl ?_
    obtain ⟨h3, hT⟩ := hT
    refine g_iald (npc := 14) dL_sumOf_13 rfl hk0 h3 ?_
    refine g_iadd (npc := 15) dL_sumOf_14 rfl ?_
    refine g_istore_n (npc := 16) (l' := [(0, .ref k0), (1, iV (x1 + (s k0 (Int.toNat x2)))), (2, iV x2)]) dL_sumOf_15 rfl rfl (by decide) rfl ?_
    refine g_iinc (npc := 19) (y := (x2 + 1)) (l' := [(0, .ref k0), (1, iV (x1 + (s k0 (Int.toNat x2)))), (2, iV (x2 + 1))]) dL_sumOf_16 rfl (by decide) rfl (by omega) rfl ?_
    refine g_goto (npc := 4) dL_sumOf_19 (by decide) ?_
    exact hT
set_option maxRecDepth 20000 in
theorem e_La_sumOf {n : Nat} {k0 : Nat} (hk0 : ar (SL n) k0 1 8) {s : Sto} {Q : Int → Sto → Prop} (hT : H_La_sumOf_4 n Q k0 0 0 s) : K_La_sumOf n k0 s Q := by
  refine Sp.body (by decide +kernel) (Nat.le_of_ble_eq_true rfl) ?_
  show Go (SL n) M_La_sumOf (fI Q) 0 0 0 [(0, .ref k0)] [] s
  refine g_iconst (npc := 1) dL_sumOf_0 rfl ?_
  refine g_istore_n (npc := 2) (l' := [(0, .ref k0), (1, iV 0)]) dL_sumOf_1 rfl rfl (by decide) rfl ?_
  refine g_iconst (npc := 3) dL_sumOf_2 rfl ?_
  refine g_istore_n (npc := 4) (l' := [(0, .ref k0), (1, iV 0), (2, iV 0)]) dL_sumOf_3 rfl rfl (by decide) rfl ?_
  exact hT
abbrev H_La_classes_88 (n : Nat) (Q : Int → Sto → Prop) (x1 : Int) (x2 : Int) (x7 : Int) (s : Sto) : Prop := Go (SL n) M_La_classes (fI Q) 3 24 88 [(0, .ref 0), (1, iV x1), (2, iV x2), (3, .ref 190), (4, .ref 191), (5, .ref 192), (7, iV x7)] [] s
abbrev H_La_classes_311 (n : Nat) (Q : Int → Sto → Prop) (x1 : Int) (x2 : Int) (x9 : Int) (x10 : Int) (x11 : Int) (s : Sto) : Prop := Go (SL n) M_La_classes (fI Q) 3 24 311 [(0, .ref 0), (1, iV x1), (2, iV x2), (3, .ref 190), (4, .ref 191), (5, .ref 192), (9, iV x9), (10, iV x10), (11, iV x11)] [] s
abbrev H_La_classes_425 (n : Nat) (Q : Int → Sto → Prop) (x10 : Int) (x12 : Int) (x13 : Int) (s : Sto) : Prop := Go (SL n) M_La_classes (fI Q) 3 24 425 [(0, .ref 0), (3, .ref 190), (4, .ref 191), (10, iV x10), (12, iV x12), (13, iV x13)] [] s
set_option maxRecDepth 20000 in
theorem b_La_classes_88 {Q : Int → Sto → Prop} {x1 : Int} {x2 : Int} {x7 : Int} {s : Sto} (hT : ((-2147483648 ≤ x7 ∧ x7 < 2147483648) ∧ -2147483648 ≤ x1 ∧ x1 < 2147483648) ∧ ((x1 ≤ x7) → ∃ Q59 : Sto → Prop, K_La_lay 3 192 s Q59 ∧ ∀ s61, Q59 s61 → ∃ Q64 : Int → Sto → Prop, K_Cg_kind 3 s61 Q64 ∧ ∀ r67 s66, Q64 r67 s66 → (-2147483648 ≤ (iand r67 2) ∧ (iand r67 2) < 2147483648) ∧ ((¬ (iand r67 2) = 0) → ∃ Q71 : Sto → Prop, K_La_lay 3 190 s66 Q71 ∧ ∀ s73, Q71 s73 → ∃ Q76 : Int → Sto → Prop, K_Cg_makeRecurrent 3 s73 Q76 ∧ ∀ r79 s78, Q76 r79 s78 → ∃ Q81 : Sto → Prop, K_La_read 3 192 s78 Q81 ∧ ∀ s83, Q81 s83 → ∃ Q86 : Int → Sto → Prop, K_Cg_kind 3 s83 Q86 ∧ ∀ r89 s88, Q86 r89 s88 → (-2147483648 ≤ (iand r89 3) ∧ (iand r89 3) < 2147483648) ∧ ((¬ (iand r89 3) = 3) → Q 0 s88) ∧ (((iand r89 3) = 3) → ∃ Q93 : Int → Sto → Prop, K_Cg_makeRecurrent 3 s88 Q93 ∧ ∀ r96 s95, Q93 r96 s95 → (-2147483648 ≤ r96 ∧ r96 < 2147483648) ∧ ((¬ r96 = 0) → Q 0 s95) ∧ ((r96 = 0) → ∃ Q100 : Int → Sto → Prop, K_Cg_isSameClass 3 0 s95 Q100 ∧ ∀ r103 s102, Q100 r103 s102 → (-2147483648 ≤ r103 ∧ r103 < 2147483648) ∧ ((r103 = 1) → ∃ Q107 : Int → Sto → Prop, K_Cg_keep 3 1 s102 Q107 ∧ ∀ r110 s109, Q107 r110 s109 → ∃ Q112 : Int → Sto → Prop, K_Cg_tree 3 s109 Q112 ∧ ∀ r115 s114, Q112 r115 s114 → ∃ Q117 : Int → Sto → Prop, K_Cg_level 3 s114 Q117 ∧ ∀ r120 s119, Q117 r120 s119 → ∃ Q122 : Int → Sto → Prop, K_Cg_value 3 4 s119 Q122 ∧ ∀ r125 s124, Q122 r125 s124 → (-2147483648 ≤ r120 ∧ r120 < 2147483648) ∧ ((r120 < 0) → Q 0 s124) ∧ ((0 ≤ r120) → ∃ Q129 : Int → Sto → Prop, K_Cg_value 3 6 s124 Q129 ∧ ∀ r132 s131, Q129 r132 s131 → ((-2147483648 ≤ r120 ∧ r120 < 2147483648) ∧ -2147483648 ≤ (r125 - r132) ∧ (r125 - r132) < 2147483648) ∧ ((¬ r120 = (r125 - r132)) → Q 0 s131) ∧ ((r120 = (r125 - r132)) → ∃ Q136 : Int → Sto → Prop, K_Cg_levelCount 3 r120 s131 Q136 ∧ ∀ r139 s138, Q136 r139 s138 → (-2147483648 ≤ r139 ∧ r139 < 2147483648) ∧ ((1 ≤ r139) → ∃ Q143 : Sto → Prop, K_La_lay 3 190 s138 Q143 ∧ ∀ s145, Q143 s145 → ∃ Q148 : Int → Sto → Prop, K_Cg_takeTree 3 r115 s145 Q148 ∧ ∀ r151 s150, Q148 r151 s150 → ((-2147483648 ≤ r151 ∧ r151 < 2147483648) ∧ -2147483648 ≤ r125 ∧ r125 < 2147483648) ∧ ((¬ r151 = r125) → Q 0 s150) ∧ ((r151 = r125) → ∃ Q155 : Int → Sto → Prop, K_La_are 3 192 s150 Q155 ∧ ∀ r158 s157, Q155 r158 s157 → (-2147483648 ≤ r158 ∧ r158 < 2147483648) ∧ ((r158 = 0) → Q 0 s157) ∧ ((¬ r158 = 0) → ∃ Q162 : Int → Sto → Prop, K_Cg_tree 3 s157 Q162 ∧ ∀ r165 s164, Q162 r165 s164 → ((-2147483648 ≤ r165 ∧ r165 < 2147483648) ∧ -2147483648 ≤ r115 ∧ r115 < 2147483648) ∧ ((¬ r165 = r115) → Q 0 s164) ∧ ((r165 = r115) → ∃ Q169 : Int → Sto → Prop, K_Cg_value 3 1 s164 Q169 ∧ ∀ r172 s171, Q169 r172 s171 → ∃ Q174 : Int → Sto → Prop, K_Cg_takeTree 3 (ior r115 (ishl 1 r172)) s171 Q174 ∧ ∀ r177 s176, Q174 r177 s176 → (-2147483648 ≤ r177 ∧ r177 < 2147483648) ∧ ((r177 = (-10002)) → ∃ Q181 : Int → Sto → Prop, K_Cg_order 3 s176 Q181 ∧ ∀ r184 s183, Q181 r184 s183 → H_La_classes_311 3 Q x1 x2 r125 r184 0 s183) ∧ ((¬ r177 = (-10002)) → Q 0 s176))))) ∧ ((r139 < 1) → Q 0 s138)))) ∧ ((¬ r103 = 1) → Q 0 s102)))) ∧ (((iand r67 2) = 0) → Q 0 s66)) ∧ ((x7 < x1) → ((-2147483648 ≤ x7 ∧ x7 < 2147483648) ∧ -2147483648 ≤ x2 ∧ x2 < 2147483648) ∧ ((¬ x7 = x2) → ∃ Q188 : Int → Sto → Prop, K_Cg_degree 3 x7 s Q188 ∧ ∀ r191 s190, Q188 r191 s190 → (0 ≤ x7 ∧ x7 < 8) ∧ (0 ≤ x7 ∧ x7 < 8) ∧ ∀ s195, s195 = up s190 192 (Int.toNat x7) ((r191 - 1) - (s190 191 (Int.toNat x7))) → H_La_classes_88 3 Q x1 x2 (x7 + 1) s195) ∧ ((x7 = x2) → (0 ≤ x7 ∧ x7 < 8) ∧ ∀ s197, s197 = up s 192 (Int.toNat x7) 0 → H_La_classes_88 3 Q x1 x2 (x7 + 1) s197))) : H_La_classes_88 3 Q x1 x2 x7 s := by
  refine g_iload (npc := 90) dL_classes_88 rfl rfl ?_
  refine g_iload_n (npc := 91) dL_classes_90 rfl rfl rfl ?_
  obtain ⟨h57, hTt, hTf⟩ := hT
  refine g_icmp_ge (npc := 94) (tgt := 129) dL_classes_91 rfl (by decide) h57 (fun c58 => ?_) (fun c58 => ?_)
  · replace hT := hTt c58
    refine g_aload_n (npc := 130) dL_classes_129 rfl rfl rfl ?_
    refine g_aload (npc := 132) dL_classes_130 rfl rfl ?_
    obtain ⟨Q59, h60, hT⟩ := hT
    refine iv_La_87 (npc := 135) dL_classes_132 rfl rfl (Nat.le_of_ble_eq_true rfl) (by decide) (by decide) h60 (fun s61 e63 => ?_)
    replace hT := hT s61 e63
    refine g_aload_n (npc := 136) dL_classes_135 rfl rfl rfl ?_
    obtain ⟨Q64, h65, hT⟩ := hT
    refine iv_La_49 (npc := 139) dL_classes_136 rfl rfl (Nat.le_of_ble_eq_true rfl) (by decide) (by decide) h65 (fun r67 s66 e68 => ?_)
    replace hT := hT r67 s66 e68
    refine g_iconst (npc := 140) dL_classes_139 rfl ?_
    refine g_iand (npc := 141) dL_classes_140 rfl ?_
    obtain ⟨h69, hTt, hTf⟩ := hT
    refine g_if_ne (npc := 144) (tgt := 146) dL_classes_141 rfl (by decide) h69 (fun c70 => ?_) (fun c70 => ?_)
    · replace hT := hTt c70
      refine g_aload_n (npc := 147) dL_classes_146 rfl rfl rfl ?_
      refine g_aload_n (npc := 148) dL_classes_147 rfl rfl rfl ?_
      obtain ⟨Q71, h72, hT⟩ := hT
      refine iv_La_87 (npc := 151) dL_classes_148 rfl rfl (Nat.le_of_ble_eq_true rfl) (by decide) (by decide) h72 (fun s73 e75 => ?_)
      replace hT := hT s73 e75
      refine g_aload_n (npc := 152) dL_classes_151 rfl rfl rfl ?_
      obtain ⟨Q76, h77, hT⟩ := hT
      refine iv_La_39 (npc := 155) dL_classes_152 rfl rfl (Nat.le_of_ble_eq_true rfl) (by decide) (by decide) h77 (fun r79 s78 e80 => ?_)
      replace hT := hT r79 s78 e80
      refine g_pop (npc := 156) dL_classes_155 rfl rfl ?_
      refine g_aload_n (npc := 157) dL_classes_156 rfl rfl rfl ?_
      refine g_aload (npc := 159) dL_classes_157 rfl rfl ?_
      obtain ⟨Q81, h82, hT⟩ := hT
      refine iv_La_26 (npc := 162) dL_classes_159 rfl rfl (Nat.le_of_ble_eq_true rfl) (by decide) (by decide) h82 (fun s83 e85 => ?_)
      replace hT := hT s83 e85
      refine g_aload_n (npc := 163) dL_classes_162 rfl rfl rfl ?_
      obtain ⟨Q86, h87, hT⟩ := hT
      refine iv_La_49 (npc := 166) dL_classes_163 rfl rfl (Nat.le_of_ble_eq_true rfl) (by decide) (by decide) h87 (fun r89 s88 e90 => ?_)
      replace hT := hT r89 s88 e90
      refine g_iconst (npc := 167) dL_classes_166 rfl ?_
      refine g_iand (npc := 168) dL_classes_167 rfl ?_
      refine g_iconst (npc := 169) dL_classes_168 rfl ?_
      obtain ⟨h91, hTt, hTf⟩ := hT
      refine g_icmp_ne (npc := 172) (tgt := 188) dL_classes_169 rfl (by decide) ⟨h91, by decide, by decide⟩ (fun c92 => ?_) (fun c92 => ?_)
      · replace hT := hTt c92
        refine g_iconst (npc := 189) dL_classes_188 rfl ?_
        exact g_iret dL_classes_189 rfl (by decide) (by decide) ⟨_, rfl, hT⟩
      · replace hT := hTf (Decidable.not_not.mp c92)
        refine g_aload_n (npc := 173) dL_classes_172 rfl rfl rfl ?_
        obtain ⟨Q93, h94, hT⟩ := hT
        refine iv_La_39 (npc := 176) dL_classes_173 rfl rfl (Nat.le_of_ble_eq_true rfl) (by decide) (by decide) h94 (fun r96 s95 e97 => ?_)
        replace hT := hT r96 s95 e97
        obtain ⟨h98, hTt, hTf⟩ := hT
        refine g_if_ne (npc := 179) (tgt := 188) dL_classes_176 rfl (by decide) h98 (fun c99 => ?_) (fun c99 => ?_)
        · replace hT := hTt c99
          refine g_iconst (npc := 189) dL_classes_188 rfl ?_
          exact g_iret dL_classes_189 rfl (by decide) (by decide) ⟨_, rfl, hT⟩
        · replace hT := hTf (Decidable.not_not.mp c99)
          refine g_aload_n (npc := 180) dL_classes_179 rfl rfl rfl ?_
          refine g_iconst (npc := 181) dL_classes_180 rfl ?_
          obtain ⟨Q100, h101, hT⟩ := hT
          refine iv_La_84 (npc := 184) dL_classes_181 rfl rfl (Nat.le_of_ble_eq_true rfl) (by decide) (by decide) h101 (fun r103 s102 e104 => ?_)
          replace hT := hT r103 s102 e104
          refine g_iconst (npc := 185) dL_classes_184 rfl ?_
          obtain ⟨h105, hTt, hTf⟩ := hT
          refine g_icmp_eq (npc := 188) (tgt := 190) dL_classes_185 rfl (by decide) ⟨h105, by decide, by decide⟩ (fun c106 => ?_) (fun c106 => ?_)
          · replace hT := hTt c106
            refine g_aload_n (npc := 191) dL_classes_190 rfl rfl rfl ?_
            refine g_iconst (npc := 192) dL_classes_191 rfl ?_
            obtain ⟨Q107, h108, hT⟩ := hT
            refine iv_La_81 (npc := 195) dL_classes_192 rfl rfl (Nat.le_of_ble_eq_true rfl) (by decide) (by decide) h108 (fun r110 s109 e111 => ?_)
            replace hT := hT r110 s109 e111
            refine g_pop (npc := 196) dL_classes_195 rfl rfl ?_
            refine g_aload_n (npc := 197) dL_classes_196 rfl rfl rfl ?_
            obtain ⟨Q112, h113, hT⟩ := hT
            refine iv_La_61 (npc := 200) dL_classes_197 rfl rfl (Nat.le_of_ble_eq_true rfl) (by decide) (by decide) h113 (fun r115 s114 e116 => ?_)
            replace hT := hT r115 s114 e116
            refine g_istore (npc := 202) (l' := [(0, .ref 0), (1, iV x1), (2, iV x2), (3, .ref 190), (4, .ref 191), (5, .ref 192), (7, iV r115)]) dL_classes_200 rfl (by decide) rfl ?_
            refine g_aload_n (npc := 203) dL_classes_202 rfl rfl rfl ?_
            obtain ⟨Q117, h118, hT⟩ := hT
            refine iv_La_90 (npc := 206) dL_classes_203 rfl rfl (Nat.le_of_ble_eq_true rfl) (by decide) (by decide) h118 (fun r120 s119 e121 => ?_)
            replace hT := hT r120 s119 e121
            refine g_istore (npc := 208) (l' := [(0, .ref 0), (1, iV x1), (2, iV x2), (3, .ref 190), (4, .ref 191), (5, .ref 192), (7, iV r115), (8, iV r120)]) dL_classes_206 rfl (by decide) rfl ?_
            refine g_aload_n (npc := 209) dL_classes_208 rfl rfl rfl ?_
            refine g_iconst (npc := 210) dL_classes_209 rfl ?_
            obtain ⟨Q122, h123, hT⟩ := hT
            refine iv_La_9 (npc := 213) dL_classes_210 rfl rfl (Nat.le_of_ble_eq_true rfl) (by decide) (by decide) h123 (fun r125 s124 e126 => ?_)
            replace hT := hT r125 s124 e126
            refine g_istore (npc := 215) (l' := [(0, .ref 0), (1, iV x1), (2, iV x2), (3, .ref 190), (4, .ref 191), (5, .ref 192), (7, iV r115), (8, iV r120), (9, iV r125)]) dL_classes_213 rfl (by decide) rfl ?_
            refine g_iload (npc := 217) dL_classes_215 rfl rfl ?_
            obtain ⟨h127, hTt, hTf⟩ := hT
            refine g_if_lt (npc := 220) (tgt := 244) dL_classes_217 rfl (by decide) h127 (fun c128 => ?_) (fun c128 => ?_)
            · replace hT := hTt c128
              refine g_iconst (npc := 245) dL_classes_244 rfl ?_
              exact g_iret dL_classes_245 rfl (by decide) (by decide) ⟨_, rfl, hT⟩
            · replace hT := hTf (Int.not_lt.mp c128)
              refine g_iload (npc := 222) dL_classes_220 rfl rfl ?_
              refine g_iload (npc := 224) dL_classes_222 rfl rfl ?_
              refine g_aload_n (npc := 225) dL_classes_224 rfl rfl rfl ?_
              refine g_bipush (npc := 227) (x := 6) dL_classes_225 rfl (by decide) ?_
              obtain ⟨Q129, h130, hT⟩ := hT
              refine iv_La_9 (npc := 230) dL_classes_227 rfl rfl (Nat.le_of_ble_eq_true rfl) (by decide) (by decide) h130 (fun r132 s131 e133 => ?_)
              replace hT := hT r132 s131 e133
              refine g_isub (npc := 231) dL_classes_230 rfl ?_
              obtain ⟨h134, hTt, hTf⟩ := hT
              refine g_icmp_ne (npc := 234) (tgt := 244) dL_classes_231 rfl (by decide) h134 (fun c135 => ?_) (fun c135 => ?_)
              · replace hT := hTt c135
                refine g_iconst (npc := 245) dL_classes_244 rfl ?_
                exact g_iret dL_classes_245 rfl (by decide) (by decide) ⟨_, rfl, hT⟩
              · replace hT := hTf (Decidable.not_not.mp c135)
                refine g_aload_n (npc := 235) dL_classes_234 rfl rfl rfl ?_
                refine g_iload (npc := 237) dL_classes_235 rfl rfl ?_
                obtain ⟨Q136, h137, hT⟩ := hT
                refine iv_La_58 (npc := 240) dL_classes_237 rfl rfl (Nat.le_of_ble_eq_true rfl) (by decide) (by decide) h137 (fun r139 s138 e140 => ?_)
                replace hT := hT r139 s138 e140
                refine g_iconst (npc := 241) dL_classes_240 rfl ?_
                obtain ⟨h141, hTt, hTf⟩ := hT
                refine g_icmp_ge (npc := 244) (tgt := 246) dL_classes_241 rfl (by decide) ⟨h141, by decide, by decide⟩ (fun c142 => ?_) (fun c142 => ?_)
                · replace hT := hTt c142
                  refine g_aload_n (npc := 247) dL_classes_246 rfl rfl rfl ?_
                  refine g_aload_n (npc := 248) dL_classes_247 rfl rfl rfl ?_
                  obtain ⟨Q143, h144, hT⟩ := hT
                  refine iv_La_87 (npc := 251) dL_classes_248 rfl rfl (Nat.le_of_ble_eq_true rfl) (by decide) (by decide) h144 (fun s145 e147 => ?_)
                  replace hT := hT s145 e147
                  refine g_aload_n (npc := 252) dL_classes_251 rfl rfl rfl ?_
                  refine g_iload (npc := 254) dL_classes_252 rfl rfl ?_
                  obtain ⟨Q148, h149, hT⟩ := hT
                  refine iv_La_93 (npc := 257) dL_classes_254 rfl rfl (Nat.le_of_ble_eq_true rfl) (by decide) (by decide) h149 (fun r151 s150 e152 => ?_)
                  replace hT := hT r151 s150 e152
                  refine g_iload (npc := 259) dL_classes_257 rfl rfl ?_
                  obtain ⟨h153, hTt, hTf⟩ := hT
                  refine g_icmp_ne (npc := 262) (tgt := 300) dL_classes_259 rfl (by decide) h153 (fun c154 => ?_) (fun c154 => ?_)
                  · replace hT := hTt c154
                    refine g_iconst (npc := 301) dL_classes_300 rfl ?_
                    exact g_iret dL_classes_301 rfl (by decide) (by decide) ⟨_, rfl, hT⟩
                  · replace hT := hTf (Decidable.not_not.mp c154)
                    refine g_aload_n (npc := 263) dL_classes_262 rfl rfl rfl ?_
                    refine g_aload (npc := 265) dL_classes_263 rfl rfl ?_
                    obtain ⟨Q155, h156, hT⟩ := hT
                    refine iv_La_77 (npc := 268) dL_classes_265 rfl rfl (Nat.le_of_ble_eq_true rfl) (by decide) (by decide) h156 (fun r158 s157 e159 => ?_)
                    replace hT := hT r158 s157 e159
                    obtain ⟨h160, hTt, hTf⟩ := hT
                    refine g_if_eq (npc := 271) (tgt := 300) dL_classes_268 rfl (by decide) h160 (fun c161 => ?_) (fun c161 => ?_)
                    · replace hT := hTt c161
                      refine g_iconst (npc := 301) dL_classes_300 rfl ?_
                      exact g_iret dL_classes_301 rfl (by decide) (by decide) ⟨_, rfl, hT⟩
                    · replace hT := hTf c161
                      refine g_aload_n (npc := 272) dL_classes_271 rfl rfl rfl ?_
                      obtain ⟨Q162, h163, hT⟩ := hT
                      refine iv_La_61 (npc := 275) dL_classes_272 rfl rfl (Nat.le_of_ble_eq_true rfl) (by decide) (by decide) h163 (fun r165 s164 e166 => ?_)
                      replace hT := hT r165 s164 e166
                      refine g_iload (npc := 277) dL_classes_275 rfl rfl ?_
                      obtain ⟨h167, hTt, hTf⟩ := hT
                      refine g_icmp_ne (npc := 280) (tgt := 300) dL_classes_277 rfl (by decide) h167 (fun c168 => ?_) (fun c168 => ?_)
                      · replace hT := hTt c168
                        refine g_iconst (npc := 301) dL_classes_300 rfl ?_
                        exact g_iret dL_classes_301 rfl (by decide) (by decide) ⟨_, rfl, hT⟩
                      · replace hT := hTf (Decidable.not_not.mp c168)
                        refine g_aload_n (npc := 281) dL_classes_280 rfl rfl rfl ?_
                        refine g_iload (npc := 283) dL_classes_281 rfl rfl ?_
                        refine g_iconst (npc := 284) dL_classes_283 rfl ?_
                        refine g_aload_n (npc := 285) dL_classes_284 rfl rfl rfl ?_
                        refine g_iconst (npc := 286) dL_classes_285 rfl ?_
                        obtain ⟨Q169, h170, hT⟩ := hT
                        refine iv_La_9 (npc := 289) dL_classes_286 rfl rfl (Nat.le_of_ble_eq_true rfl) (by decide) (by decide) h170 (fun r172 s171 e173 => ?_)
                        replace hT := hT r172 s171 e173
                        refine g_ishl (npc := 290) dL_classes_289 rfl ?_
                        refine g_ior (npc := 291) dL_classes_290 rfl ?_
                        obtain ⟨Q174, h175, hT⟩ := hT
                        refine iv_La_93 (npc := 294) dL_classes_291 rfl rfl (Nat.le_of_ble_eq_true rfl) (by decide) (by decide) h175 (fun r177 s176 e178 => ?_)
                        replace hT := hT r177 s176 e178
                        refine g_sipush (npc := 297) (x := (-10002)) dL_classes_294 rfl (by decide) ?_
                        obtain ⟨h179, hTt, hTf⟩ := hT
                        refine g_icmp_eq (npc := 300) (tgt := 302) dL_classes_297 rfl (by decide) ⟨h179, by decide, by decide⟩ (fun c180 => ?_) (fun c180 => ?_)
                        · replace hT := hTt c180
                          refine g_aload_n (npc := 303) dL_classes_302 rfl rfl rfl ?_
                          obtain ⟨Q181, h182, hT⟩ := hT
                          refine iv_La_42 (npc := 306) dL_classes_303 rfl rfl (Nat.le_of_ble_eq_true rfl) (by decide) (by decide) h182 (fun r184 s183 e185 => ?_)
                          replace hT := hT r184 s183 e185
                          refine g_istore (npc := 308) (l' := [(0, .ref 0), (1, iV x1), (2, iV x2), (3, .ref 190), (4, .ref 191), (5, .ref 192), (7, iV r115), (8, iV r120), (9, iV r125), (10, iV r184)]) dL_classes_306 rfl (by decide) rfl ?_
                          refine g_iconst (npc := 309) dL_classes_308 rfl ?_
                          refine g_istore (npc := 311) (l' := [(0, .ref 0), (1, iV x1), (2, iV x2), (3, .ref 190), (4, .ref 191), (5, .ref 192), (7, iV r115), (8, iV r120), (9, iV r125), (10, iV r184), (11, iV 0)]) dL_classes_309 rfl (by decide) rfl ?_
                          refine Go.lsub [0, 1, 2, 3, 4, 5, 8, 9, 10] rfl ?_
                          exact hT
                        · replace hT := hTf c180
                          refine g_iconst (npc := 301) dL_classes_300 rfl ?_
                          exact g_iret dL_classes_301 rfl (by decide) (by decide) ⟨_, rfl, hT⟩
                · replace hT := hTf (Int.not_le.mp c142)
                  refine g_iconst (npc := 245) dL_classes_244 rfl ?_
                  exact g_iret dL_classes_245 rfl (by decide) (by decide) ⟨_, rfl, hT⟩
          · replace hT := hTf c106
            refine g_iconst (npc := 189) dL_classes_188 rfl ?_
            exact g_iret dL_classes_189 rfl (by decide) (by decide) ⟨_, rfl, hT⟩
    · replace hT := hTf (Decidable.not_not.mp c70)
      refine g_iconst (npc := 145) dL_classes_144 rfl ?_
      exact g_iret dL_classes_145 rfl (by decide) (by decide) ⟨_, rfl, hT⟩
  · replace hT := hTf (Int.not_le.mp c58)
    refine g_aload (npc := 96) dL_classes_94 rfl rfl ?_
    refine g_iload (npc := 98) dL_classes_96 rfl rfl ?_
    refine g_iload (npc := 100) dL_classes_98 rfl rfl ?_
    refine g_iload_n (npc := 101) dL_classes_100 rfl rfl rfl ?_
    obtain ⟨h186, hTt, hTf⟩ := hT
    refine g_icmp_ne (npc := 104) (tgt := 108) dL_classes_101 rfl (by decide) h186 (fun c187 => ?_) (fun c187 => ?_)
    · replace hT := hTt c187
      refine g_aload_n (npc := 109) dL_classes_108 rfl rfl rfl ?_
      refine g_iload (npc := 111) dL_classes_109 rfl rfl ?_
      obtain ⟨Q188, h189, hT⟩ := hT
      refine iv_La_67 (npc := 114) dL_classes_111 rfl rfl (Nat.le_of_ble_eq_true rfl) (by decide) (by decide) h189 (fun r191 s190 e192 => ?_)
      replace hT := hT r191 s190 e192
      refine g_iconst (npc := 115) dL_classes_114 rfl ?_
      refine g_isub (npc := 116) dL_classes_115 rfl ?_
      refine g_aload (npc := 118) dL_classes_116 rfl rfl ?_
      refine g_iload (npc := 120) dL_classes_118 rfl rfl ?_
      obtain ⟨h193, hT⟩ := hT
      refine g_iald (npc := 121) dL_classes_120 rfl (arX (by decide) (by decide)) h193 ?_
      refine g_isub (npc := 122) dL_classes_121 rfl ?_
      obtain ⟨h194, hT⟩ := hT
      replace hT := hT _ rfl
      refine g_iast (npc := 123) dL_classes_122 rfl (arX (by decide) (by decide)) h194  ?_
      refine g_iinc (npc := 126) (y := (x7 + 1)) (l' := [(0, .ref 0), (1, iV x1), (2, iV x2), (3, .ref 190), (4, .ref 191), (5, .ref 192), (7, iV (x7 + 1))]) dL_classes_123 rfl (by decide) rfl (by omega) rfl ?_
      refine g_goto (npc := 88) dL_classes_126 (by decide) ?_
      exact hT
    · replace hT := hTf (Decidable.not_not.mp c187)
      refine g_iconst (npc := 105) dL_classes_104 rfl ?_
      refine g_goto (npc := 122) dL_classes_105 (by decide) ?_
      obtain ⟨h196, hT⟩ := hT
      replace hT := hT _ rfl
      refine g_iast (npc := 123) dL_classes_122 rfl (arX (by decide) (by decide)) h196  ?_
      refine g_iinc (npc := 126) (y := (x7 + 1)) (l' := [(0, .ref 0), (1, iV x1), (2, iV x2), (3, .ref 190), (4, .ref 191), (5, .ref 192), (7, iV (x7 + 1))]) dL_classes_123 rfl (by decide) rfl (by omega) rfl ?_
      refine g_goto (npc := 88) dL_classes_126 (by decide) ?_
      exact hT
set_option maxRecDepth 20000 in
theorem b_La_classes_311 {Q : Int → Sto → Prop} {x1 : Int} {x2 : Int} {x9 : Int} {x10 : Int} {x11 : Int} {s : Sto} (hT : ((-2147483648 ≤ x11 ∧ x11 < 2147483648) ∧ -2147483648 ≤ x1 ∧ x1 < 2147483648) ∧ ((x1 ≤ x11) → ∃ Q200 : Sto → Prop, K_La_lay 3 191 s Q200 ∧ ∀ s202, Q200 s202 → ∃ Q205 : Int → Sto → Prop, K_Cg_kind 3 s202 Q205 ∧ ∀ r208 s207, Q205 r208 s207 → ∃ J222 : Sto → Prop, ∃ J236 : Int → Sto → Prop, (∀ s221, J222 s221 → J236 0 s221) ∧ (∀ v234 s235, J236 v234 s235 → (-2147483648 ≤ v234 ∧ v234 < 2147483648) ∧ ((¬ v234 = 0) → ∃ Q243 : Sto → Prop, K_La_lay 3 191 s235 Q243 ∧ ∀ s245, Q243 s245 → H_La_classes_425 3 Q x10 0 0 s245) ∧ ((v234 = 0) → Q 0 s235)) ∧ (-2147483648 ≤ (iand r208 2) ∧ (iand r208 2) < 2147483648) ∧ (((iand r208 2) ≤ 0) → J222 s207) ∧ ((0 < (iand r208 2)) → ∃ Q250 : Int → Sto → Prop, K_Cg_order 3 s207 Q250 ∧ ∀ r253 s252, Q250 r253 s252 → (-2147483648 ≤ r253 ∧ r253 < 2147483648) ∧ ((¬ r253 = 1) → J222 s252) ∧ ((r253 = 1) → ∃ Q257 : Int → Sto → Prop, K_Cg_add 3 1 s252 Q257 ∧ ∀ r260 s259, Q257 r260 s259 → ∃ Q262 : Int → Sto → Prop, K_La_sumOf 3 191 s259 Q262 ∧ ∀ r265 s264, Q262 r265 s264 → ((-2147483648 ≤ r260 ∧ r260 < 2147483648) ∧ -2147483648 ≤ (r265 + x9) ∧ (r265 + x9) < 2147483648) ∧ ((¬ r260 = (r265 + x9)) → J222 s264) ∧ ((r260 = (r265 + x9)) → ∃ Q269 : Int → Sto → Prop, K_Cg_stabilize 3 s264 Q269 ∧ ∀ r272 s271, Q269 r272 s271 → (-2147483648 ≤ r272 ∧ r272 < 2147483648) ∧ ((r272 < 0) → J222 s271) ∧ ((0 ≤ r272) → ∃ Q276 : Int → Sto → Prop, K_La_are 3 192 s271 Q276 ∧ ∀ r279 s278, Q276 r279 s278 → (-2147483648 ≤ r279 ∧ r279 < 2147483648) ∧ ((r279 = 0) → J222 s278) ∧ ((¬ r279 = 0) → J236 1 s278)))))) ∧ ((x11 < x1) → ((-2147483648 ≤ x11 ∧ x11 < 2147483648) ∧ -2147483648 ≤ x2 ∧ x2 < 2147483648) ∧ ((¬ x11 = x2) → ∃ Q287 : Int → Sto → Prop, K_Cg_identity 3 x11 s Q287 ∧ ∀ r290 s289, Q287 r290 s289 → (0 ≤ x11 ∧ x11 < 8) ∧ ∀ s293, s293 = up s289 191 (Int.toNat x11) r290 → H_La_classes_311 3 Q x1 x2 x9 x10 (x11 + 1) s293) ∧ ((x11 = x2) → (0 ≤ x11 ∧ x11 < 8) ∧ ∀ s295, s295 = up s 191 (Int.toNat x11) 0 → H_La_classes_311 3 Q x1 x2 x9 x10 (x11 + 1) s295))) : H_La_classes_311 3 Q x1 x2 x9 x10 x11 s := by
  refine g_iload (npc := 313) dL_classes_311 rfl rfl ?_
  refine g_iload_n (npc := 314) dL_classes_313 rfl rfl rfl ?_
  obtain ⟨h198, hTt, hTf⟩ := hT
  refine g_icmp_ge (npc := 317) (tgt := 344) dL_classes_314 rfl (by decide) h198 (fun c199 => ?_) (fun c199 => ?_)
  · replace hT := hTt c199
    refine g_aload_n (npc := 345) dL_classes_344 rfl rfl rfl ?_
    refine g_aload (npc := 347) dL_classes_345 rfl rfl ?_
    obtain ⟨Q200, h201, hT⟩ := hT
    refine iv_La_87 (npc := 350) dL_classes_347 rfl rfl (Nat.le_of_ble_eq_true rfl) (by decide) (by decide) h201 (fun s202 e204 => ?_)
    replace hT := hT s202 e204
    refine g_aload_n (npc := 351) dL_classes_350 rfl rfl rfl ?_
    obtain ⟨Q205, h206, hT⟩ := hT
    refine iv_La_49 (npc := 354) dL_classes_351 rfl rfl (Nat.le_of_ble_eq_true rfl) (by decide) (by decide) h206 (fun r208 s207 e209 => ?_)
    replace hT := hT r208 s207 e209
    refine g_iconst (npc := 355) dL_classes_354 rfl ?_
    refine g_iand (npc := 356) dL_classes_355 rfl ?_
    obtain ⟨J222, hT⟩ := hT
    obtain ⟨J236, hT⟩ := hT
    obtain ⟨hj239, hT⟩ := hT
    obtain ⟨hj248, hT⟩ := hT
    have K249 : ∀ (v234 : Int) (s235 : Sto), J236 v234 s235 → Go (SL 3) M_La_classes (fI Q) 3 24 404 [(0, .ref 0), (3, .ref 190), (4, .ref 191), (10, iV x10)] [iV v234] s235 := by
      intro v234 s235 q283
      replace hT := hj248 v234 s235 q283
      refine g_istore (npc := 406) (l' := [(0, .ref 0), (3, .ref 190), (4, .ref 191), (10, iV x10), (11, iV v234)]) dL_classes_404 rfl (by decide) rfl ?_
      refine g_iload (npc := 408) dL_classes_406 rfl rfl ?_
      obtain ⟨h241, hTt, hTf⟩ := hT
      refine g_if_ne (npc := 411) (tgt := 413) dL_classes_408 rfl (by decide) h241 (fun c242 => ?_) (fun c242 => ?_)
      · replace hT := hTt c242
        refine g_aload_n (npc := 414) dL_classes_413 rfl rfl rfl ?_
        refine g_aload (npc := 416) dL_classes_414 rfl rfl ?_
        obtain ⟨Q243, h244, hT⟩ := hT
        refine iv_La_87 (npc := 419) dL_classes_416 rfl rfl (Nat.le_of_ble_eq_true rfl) (by decide) (by decide) h244 (fun s245 e247 => ?_)
        replace hT := hT s245 e247
        refine g_iconst (npc := 420) dL_classes_419 rfl ?_
        refine g_istore (npc := 422) (l' := [(0, .ref 0), (3, .ref 190), (4, .ref 191), (10, iV x10), (11, iV v234), (12, iV 0)]) dL_classes_420 rfl (by decide) rfl ?_
        refine g_iconst (npc := 423) dL_classes_422 rfl ?_
        refine g_istore (npc := 425) (l' := [(0, .ref 0), (3, .ref 190), (4, .ref 191), (10, iV x10), (11, iV v234), (12, iV 0), (13, iV 0)]) dL_classes_423 rfl (by decide) rfl ?_
        refine Go.lsub [0, 1, 2, 3, 5, 6] rfl ?_
        exact hT
      · replace hT := hTf (Decidable.not_not.mp c242)
        refine g_iconst (npc := 412) dL_classes_411 rfl ?_
        exact g_iret dL_classes_412 rfl (by decide) (by decide) ⟨_, rfl, hT⟩
    have K240 : ∀ (s221 : Sto), J222 s221 → Go (SL 3) M_La_classes (fI Q) 3 24 403 [(0, .ref 0), (3, .ref 190), (4, .ref 191), (10, iV x10)] [] s221 := by
      intro s221 q284
      replace hT := hj239 s221 q284
      refine g_iconst (npc := 404) dL_classes_403 rfl ?_
      exact K249 _ _ hT
    obtain ⟨h237, hTt, hTf⟩ := hT
    refine g_if_le (npc := 359) (tgt := 403) dL_classes_356 rfl (by decide) h237 (fun c238 => ?_) (fun c238 => ?_)
    · replace hT := hTt c238
      refine Go.lsub [0, 3, 4, 7] rfl ?_
      exact K240 _ hT
    · replace hT := hTf (Int.not_le.mp c238)
      refine g_aload_n (npc := 360) dL_classes_359 rfl rfl rfl ?_
      obtain ⟨Q250, h251, hT⟩ := hT
      refine iv_La_42 (npc := 363) dL_classes_360 rfl rfl (Nat.le_of_ble_eq_true rfl) (by decide) (by decide) h251 (fun r253 s252 e254 => ?_)
      replace hT := hT r253 s252 e254
      refine g_iconst (npc := 364) dL_classes_363 rfl ?_
      obtain ⟨h255, hTt, hTf⟩ := hT
      refine g_icmp_ne (npc := 367) (tgt := 403) dL_classes_364 rfl (by decide) ⟨h255, by decide, by decide⟩ (fun c256 => ?_) (fun c256 => ?_)
      · replace hT := hTt c256
        refine Go.lsub [0, 3, 4, 7] rfl ?_
        exact K240 _ hT
      · replace hT := hTf (Decidable.not_not.mp c256)
        refine g_aload_n (npc := 368) dL_classes_367 rfl rfl rfl ?_
        refine g_iconst (npc := 369) dL_classes_368 rfl ?_
        obtain ⟨Q257, h258, hT⟩ := hT
        refine iv_La_99 (npc := 372) dL_classes_369 rfl rfl (Nat.le_of_ble_eq_true rfl) (by decide) (by decide) h258 (fun r260 s259 e261 => ?_)
        replace hT := hT r260 s259 e261
        refine g_aload (npc := 374) dL_classes_372 rfl rfl ?_
        obtain ⟨Q262, h263, hT⟩ := hT
        refine iv_La_102 (npc := 377) dL_classes_374 rfl rfl (Nat.le_of_ble_eq_true rfl) (by decide) (by decide) h263 (fun r265 s264 e266 => ?_)
        replace hT := hT r265 s264 e266
        refine g_iload (npc := 379) dL_classes_377 rfl rfl ?_
        refine g_iadd (npc := 380) dL_classes_379 rfl ?_
        obtain ⟨h267, hTt, hTf⟩ := hT
        refine g_icmp_ne (npc := 383) (tgt := 403) dL_classes_380 rfl (by decide) h267 (fun c268 => ?_) (fun c268 => ?_)
        · replace hT := hTt c268
          refine Go.lsub [0, 3, 4, 7] rfl ?_
          exact K240 _ hT
        · replace hT := hTf (Decidable.not_not.mp c268)
          refine g_aload_n (npc := 384) dL_classes_383 rfl rfl rfl ?_
          obtain ⟨Q269, h270, hT⟩ := hT
          refine iv_La_32 (npc := 387) dL_classes_384 rfl rfl (Nat.le_of_ble_eq_true rfl) (by decide) (by decide) h270 (fun r272 s271 e273 => ?_)
          replace hT := hT r272 s271 e273
          obtain ⟨h274, hTt, hTf⟩ := hT
          refine g_if_lt (npc := 390) (tgt := 403) dL_classes_387 rfl (by decide) h274 (fun c275 => ?_) (fun c275 => ?_)
          · replace hT := hTt c275
            refine Go.lsub [0, 3, 4, 7] rfl ?_
            exact K240 _ hT
          · replace hT := hTf (Int.not_lt.mp c275)
            refine g_aload_n (npc := 391) dL_classes_390 rfl rfl rfl ?_
            refine g_aload (npc := 393) dL_classes_391 rfl rfl ?_
            obtain ⟨Q276, h277, hT⟩ := hT
            refine iv_La_77 (npc := 396) dL_classes_393 rfl rfl (Nat.le_of_ble_eq_true rfl) (by decide) (by decide) h277 (fun r279 s278 e280 => ?_)
            replace hT := hT r279 s278 e280
            obtain ⟨h281, hTt, hTf⟩ := hT
            refine g_if_eq (npc := 399) (tgt := 403) dL_classes_396 rfl (by decide) h281 (fun c282 => ?_) (fun c282 => ?_)
            · replace hT := hTt c282
              refine Go.lsub [0, 3, 4, 7] rfl ?_
              exact K240 _ hT
            · replace hT := hTf c282
              refine g_iconst (npc := 400) dL_classes_399 rfl ?_
              refine g_goto (npc := 404) dL_classes_400 (by decide) ?_
              refine Go.lsub [0, 3, 4, 7] rfl ?_
              exact K249 _ _ hT
  · replace hT := hTf (Int.not_le.mp c199)
    refine g_aload (npc := 319) dL_classes_317 rfl rfl ?_
    refine g_iload (npc := 321) dL_classes_319 rfl rfl ?_
    refine g_iload (npc := 323) dL_classes_321 rfl rfl ?_
    refine g_iload_n (npc := 324) dL_classes_323 rfl rfl rfl ?_
    obtain ⟨h285, hTt, hTf⟩ := hT
    refine g_icmp_ne (npc := 327) (tgt := 331) dL_classes_324 rfl (by decide) h285 (fun c286 => ?_) (fun c286 => ?_)
    · replace hT := hTt c286
      refine g_aload_n (npc := 332) dL_classes_331 rfl rfl rfl ?_
      refine g_iload (npc := 334) dL_classes_332 rfl rfl ?_
      obtain ⟨Q287, h288, hT⟩ := hT
      refine iv_La_96 (npc := 337) dL_classes_334 rfl rfl (Nat.le_of_ble_eq_true rfl) (by decide) (by decide) h288 (fun r290 s289 e291 => ?_)
      replace hT := hT r290 s289 e291
      obtain ⟨h292, hT⟩ := hT
      replace hT := hT _ rfl
      refine g_iast (npc := 338) dL_classes_337 rfl (arX (by decide) (by decide)) h292  ?_
      refine g_iinc (npc := 341) (y := (x11 + 1)) (l' := [(0, .ref 0), (1, iV x1), (2, iV x2), (3, .ref 190), (4, .ref 191), (5, .ref 192), (9, iV x9), (10, iV x10), (11, iV (x11 + 1))]) dL_classes_338 rfl (by decide) rfl (by omega) rfl ?_
      refine g_goto (npc := 311) dL_classes_341 (by decide) ?_
      exact hT
    · replace hT := hTf (Decidable.not_not.mp c286)
      refine g_iconst (npc := 328) dL_classes_327 rfl ?_
      refine g_goto (npc := 337) dL_classes_328 (by decide) ?_
      obtain ⟨h294, hT⟩ := hT
      replace hT := hT _ rfl
      refine g_iast (npc := 338) dL_classes_337 rfl (arX (by decide) (by decide)) h294  ?_
      refine g_iinc (npc := 341) (y := (x11 + 1)) (l' := [(0, .ref 0), (1, iV x1), (2, iV x2), (3, .ref 190), (4, .ref 191), (5, .ref 192), (9, iV x9), (10, iV x10), (11, iV (x11 + 1))]) dL_classes_338 rfl (by decide) rfl (by omega) rfl ?_
      refine g_goto (npc := 311) dL_classes_341 (by decide) ?_
      exact hT
set_option maxRecDepth 20000 in
theorem b_La_classes_425 {Q : Int → Sto → Prop} {x10 : Int} {x12 : Int} {x13 : Int} {s : Sto} (hT : ∃ J305 : Prop, (J305 → ∃ Q308 : Sto → Prop, K_La_lay 3 190 s Q308 ∧ ∀ s310, Q308 s310 → ∃ Q313 : Int → Sto → Prop, K_Cg_order 3 s310 Q313 ∧ ∀ r316 s315, Q313 r316 s315 → ((-2147483648 ≤ r316 ∧ r316 < 2147483648) ∧ -2147483648 ≤ x10 ∧ x10 < 2147483648) ∧ ((¬ r316 = x10) → Q 0 s315) ∧ ((r316 = x10) → ∃ Q320 : Int → Sto → Prop, K_Cg_treeCount 3 s315 Q320 ∧ ∀ r323 s322, Q320 r323 s322 → (-2147483648 ≤ x10 ∧ x10 < 2147483648) ∧ (((-9223372036854775808 ≤ r323 ∧ r323 < 9223372036854775808) ∧ -9223372036854775808 ≤ x10 ∧ x10 < 9223372036854775808) ∧ ¬ x10 = 0) ∧ (-9223372036854775808 ≤ (Int.tmod r323 x10) ∧ (Int.tmod r323 x10) < 9223372036854775808) ∧ ((¬ (Int.tmod r323 x10) = 0) → Q 0 s322) ∧ (((Int.tmod r323 x10) = 0) → Q 1 s322))) ∧ ((-2147483648 ≤ x13 ∧ x13 < 2147483648) ∧ -2147483648 ≤ x10 ∧ x10 < 2147483648) ∧ ((x10 ≤ x13) → J305) ∧ ((x13 < x10) → (-2147483648 ≤ x13 ∧ x13 < 2147483648) ∧ ((40 ≤ x13) → J305) ∧ ((x13 < 40) → ∃ Q333 : Int → Sto → Prop, K_Cg_add 3 1 s Q333 ∧ ∀ r336 s335, Q333 r336 s335 → ∃ Q338 : Int → Sto → Prop, K_Cg_stabilize 3 s335 Q338 ∧ ∀ r341 s340, Q338 r341 s340 → ∃ Q343 : Int → Sto → Prop, K_La_are 3 191 s340 Q343 ∧ ∀ r346 s345, Q343 r346 s345 → ∃ J349 : Int → Prop, (∀ v348, J349 v348 → ((-2147483648 ≤ r346 ∧ r346 < 2147483648) ∧ -2147483648 ≤ v348 ∧ v348 < 2147483648) ∧ ((r346 = v348) → H_La_classes_425 3 Q x10 (x12 + 1) (x13 + 1) s345) ∧ ((¬ r346 = v348) → Q 0 s345)) ∧ ((-2147483648 ≤ (x12 + 1) ∧ (x12 + 1) < 2147483648) ∧ -2147483648 ≤ x10 ∧ x10 < 2147483648) ∧ ((¬ (x12 + 1) = x10) → J349 0) ∧ (((x12 + 1) = x10) → J349 1)))) : H_La_classes_425 3 Q x10 x12 x13 s := by
  refine g_iload (npc := 427) dL_classes_425 rfl rfl ?_
  refine g_iload (npc := 429) dL_classes_427 rfl rfl ?_
  obtain ⟨J305, hT⟩ := hT
  obtain ⟨hj329, hT⟩ := hT
  have K330 : J305 → Go (SL 3) M_La_classes (fI Q) 3 24 482 [(0, .ref 0), (3, .ref 190), (10, iV x10)] [] s := by
    intro  q357
    replace hT := hj329  q357
    refine g_aload_n (npc := 483) dL_classes_482 rfl rfl rfl ?_
    refine g_aload_n (npc := 484) dL_classes_483 rfl rfl rfl ?_
    obtain ⟨Q308, h309, hT⟩ := hT
    refine iv_La_87 (npc := 487) dL_classes_484 rfl rfl (Nat.le_of_ble_eq_true rfl) (by decide) (by decide) h309 (fun s310 e312 => ?_)
    replace hT := hT s310 e312
    refine g_aload_n (npc := 488) dL_classes_487 rfl rfl rfl ?_
    obtain ⟨Q313, h314, hT⟩ := hT
    refine iv_La_42 (npc := 491) dL_classes_488 rfl rfl (Nat.le_of_ble_eq_true rfl) (by decide) (by decide) h314 (fun r316 s315 e317 => ?_)
    replace hT := hT r316 s315 e317
    refine g_iload (npc := 493) dL_classes_491 rfl rfl ?_
    obtain ⟨h318, hTt, hTf⟩ := hT
    refine g_icmp_ne (npc := 496) (tgt := 513) dL_classes_493 rfl (by decide) h318 (fun c319 => ?_) (fun c319 => ?_)
    · replace hT := hTt c319
      refine g_iconst (npc := 514) dL_classes_513 rfl ?_
      exact g_iret dL_classes_514 rfl (by decide) (by decide) ⟨_, rfl, hT⟩
    · replace hT := hTf (Decidable.not_not.mp c319)
      refine g_aload_n (npc := 497) dL_classes_496 rfl rfl rfl ?_
      obtain ⟨Q320, h321, hT⟩ := hT
      refine iv_La_45 (npc := 500) dL_classes_497 rfl rfl (Nat.le_of_ble_eq_true rfl) (by decide) (by decide) h321 (fun r323 s322 e324 => ?_)
      replace hT := hT r323 s322 e324
      refine g_iload (npc := 502) dL_classes_500 rfl rfl ?_
      obtain ⟨h325, hT⟩ := hT
      refine g_i2l (npc := 503) dL_classes_502 rfl h325 ?_
      obtain ⟨h326, hT⟩ := hT
      refine g_lrem (npc := 504) dL_classes_503 rfl h326.1 h326.2 ?_
      refine g_lconst (npc := 505) (x := 0) dL_classes_504 rfl (by decide) ?_
      obtain ⟨h327, hTt, hTf⟩ := hT
      refine g_lne (pc2 := 506) (npc := 509) (tgt := 513) dL_classes_505 rfl dL_classes_506 rfl (by decide) ⟨h327, by decide, by decide⟩ (fun c328 => ?_) (fun c328 => ?_)
      · replace hT := hTt c328
        refine g_iconst (npc := 514) dL_classes_513 rfl ?_
        exact g_iret dL_classes_514 rfl (by decide) (by decide) ⟨_, rfl, hT⟩
      · replace hT := hTf (Decidable.not_not.mp c328)
        refine g_iconst (npc := 510) dL_classes_509 rfl ?_
        refine g_goto (npc := 514) dL_classes_510 (by decide) ?_
        exact g_iret dL_classes_514 rfl (by decide) (by decide) ⟨_, rfl, hT⟩
  obtain ⟨h306, hTt, hTf⟩ := hT
  refine g_icmp_ge (npc := 432) (tgt := 482) dL_classes_429 rfl (by decide) h306 (fun c307 => ?_) (fun c307 => ?_)
  · replace hT := hTt c307
    refine Go.lsub [0, 1, 3] rfl ?_
    exact K330  hT
  · replace hT := hTf (Int.not_le.mp c307)
    refine g_iload (npc := 434) dL_classes_432 rfl rfl ?_
    refine g_bipush (npc := 436) (x := 40) dL_classes_434 rfl (by decide) ?_
    obtain ⟨h331, hTt, hTf⟩ := hT
    refine g_icmp_ge (npc := 439) (tgt := 482) dL_classes_436 rfl (by decide) ⟨h331, by decide, by decide⟩ (fun c332 => ?_) (fun c332 => ?_)
    · replace hT := hTt c332
      refine Go.lsub [0, 1, 3] rfl ?_
      exact K330  hT
    · replace hT := hTf (Int.not_le.mp c332)
      refine g_aload_n (npc := 440) dL_classes_439 rfl rfl rfl ?_
      refine g_iconst (npc := 441) dL_classes_440 rfl ?_
      obtain ⟨Q333, h334, hT⟩ := hT
      refine iv_La_99 (npc := 444) dL_classes_441 rfl rfl (Nat.le_of_ble_eq_true rfl) (by decide) (by decide) h334 (fun r336 s335 e337 => ?_)
      replace hT := hT r336 s335 e337
      refine g_pop (npc := 445) dL_classes_444 rfl rfl ?_
      refine g_aload_n (npc := 446) dL_classes_445 rfl rfl rfl ?_
      obtain ⟨Q338, h339, hT⟩ := hT
      refine iv_La_32 (npc := 449) dL_classes_446 rfl rfl (Nat.le_of_ble_eq_true rfl) (by decide) (by decide) h339 (fun r341 s340 e342 => ?_)
      replace hT := hT r341 s340 e342
      refine g_pop (npc := 450) dL_classes_449 rfl rfl ?_
      refine g_iinc (npc := 453) (y := (x12 + 1)) (l' := [(0, .ref 0), (3, .ref 190), (4, .ref 191), (10, iV x10), (12, iV (x12 + 1)), (13, iV x13)]) dL_classes_450 rfl (by decide) rfl (by omega) rfl ?_
      refine g_aload_n (npc := 454) dL_classes_453 rfl rfl rfl ?_
      refine g_aload (npc := 456) dL_classes_454 rfl rfl ?_
      obtain ⟨Q343, h344, hT⟩ := hT
      refine iv_La_77 (npc := 459) dL_classes_456 rfl rfl (Nat.le_of_ble_eq_true rfl) (by decide) (by decide) h344 (fun r346 s345 e347 => ?_)
      replace hT := hT r346 s345 e347
      refine g_iload (npc := 461) dL_classes_459 rfl rfl ?_
      refine g_iload (npc := 463) dL_classes_461 rfl rfl ?_
      obtain ⟨J349, hT⟩ := hT
      obtain ⟨hj354, hT⟩ := hT
      have K355 : ∀ (v348 : Int), J349 v348 → Go (SL 3) M_La_classes (fI Q) 3 24 471 [(0, .ref 0), (3, .ref 190), (4, .ref 191), (10, iV x10), (12, iV (x12 + 1)), (13, iV x13)] [iV v348, iV r346] s345 := by
        intro v348 q356
        replace hT := hj354 v348 q356
        obtain ⟨h352, hTt, hTf⟩ := hT
        refine g_icmp_eq (npc := 474) (tgt := 476) dL_classes_471 rfl (by decide) h352 (fun c353 => ?_) (fun c353 => ?_)
        · replace hT := hTt c353
          refine g_iinc (npc := 479) (y := (x13 + 1)) (l' := [(0, .ref 0), (3, .ref 190), (4, .ref 191), (10, iV x10), (12, iV (x12 + 1)), (13, iV (x13 + 1))]) dL_classes_476 rfl (by decide) rfl (by omega) rfl ?_
          refine g_goto (npc := 425) dL_classes_479 (by decide) ?_
          exact hT
        · replace hT := hTf c353
          refine g_iconst (npc := 475) dL_classes_474 rfl ?_
          exact g_iret dL_classes_475 rfl (by decide) (by decide) ⟨_, rfl, hT⟩
      obtain ⟨h350, hTt, hTf⟩ := hT
      refine g_icmp_ne (npc := 466) (tgt := 470) dL_classes_463 rfl (by decide) h350 (fun c351 => ?_) (fun c351 => ?_)
      · replace hT := hTt c351
        refine g_iconst (npc := 471) dL_classes_470 rfl ?_
        exact K355 _ hT
      · replace hT := hTf (Decidable.not_not.mp c351)
        refine g_iconst (npc := 467) dL_classes_466 rfl ?_
        refine g_goto (npc := 471) dL_classes_467 (by decide) ?_
        exact K355 _ hT
set_option maxRecDepth 20000 in
theorem e_La_classes {s : Sto} {Q : Int → Sto → Prop} (hT : ∃ Q1 : Int → Sto → Prop, K_Cg_value 0 0 s Q1 ∧ ∀ r4 s3, Q1 r4 s3 → ∃ Q6 : Int → Sto → Prop, K_Cg_value 0 2 s3 Q6 ∧ ∀ r9 s8, Q6 r9 s8 → ∀ s11, s11 = zr s8 190 → ∀ s12, s12 = zr s11 191 → ∀ s13, s13 = zr s12 192 → ∃ Q14 : Sto → Prop, K_La_read 3 190 s13 Q14 ∧ ∀ s16, Q14 s16 → ∃ Q19 : Int → Sto → Prop, K_Cg_keep 3 0 s16 Q19 ∧ ∀ r22 s21, Q19 r22 s21 → ∃ Q24 : Int → Sto → Prop, K_Cg_reduce 3 s21 Q24 ∧ ∀ r27 s26, Q24 r27 s26 → ∃ Q29 : Sto → Prop, K_La_read 3 191 s26 Q29 ∧ ∀ s31, Q29 s31 → (-2147483648 ≤ r27 ∧ r27 < 2147483648) ∧ ((r27 < 0) → Q 0 s31) ∧ ((0 ≤ r27) → ∃ Q36 : Int → Sto → Prop, K_Cg_kind 3 s31 Q36 ∧ ∀ r39 s38, Q36 r39 s38 → (-2147483648 ≤ (iand r39 5) ∧ (iand r39 5) < 2147483648) ∧ ((¬ (iand r39 5) = 5) → Q 0 s38) ∧ (((iand r39 5) = 5) → ∃ Q43 : Int → Sto → Prop, K_Cg_reduce 3 s38 Q43 ∧ ∀ r46 s45, Q43 r46 s45 → (-2147483648 ≤ r46 ∧ r46 < 2147483648) ∧ ((¬ r46 = 0) → Q 0 s45) ∧ ((r46 = 0) → ∃ Q50 : Int → Sto → Prop, K_Cg_isSameClass 3 0 s45 Q50 ∧ ∀ r53 s52, Q50 r53 s52 → (-2147483648 ≤ r53 ∧ r53 < 2147483648) ∧ ((r53 = 1) → H_La_classes_88 3 Q r4 r9 0 s52) ∧ ((¬ r53 = 1) → Q 0 s52))))) : K_La_classes 0 s Q := by
  refine Sp.body (by decide +kernel) (Nat.le_of_ble_eq_true rfl) ?_
  show Go (SL 0) M_La_classes (fI Q) 0 0 0 [(0, .ref 0)] [] s
  refine g_aload_n (npc := 1) dL_classes_0 rfl rfl rfl ?_
  refine g_iconst (npc := 2) dL_classes_1 rfl ?_
  obtain ⟨Q1, h2, hT⟩ := hT
  refine iv_La_9 (npc := 5) dL_classes_2 rfl rfl (Nat.le_of_ble_eq_true rfl) (by decide) (by decide) h2 (fun r4 s3 e5 => ?_)
  replace hT := hT r4 s3 e5
  refine g_istore_n (npc := 6) (l' := [(0, .ref 0), (1, iV r4)]) dL_classes_5 rfl rfl (by decide) rfl ?_
  refine g_aload_n (npc := 7) dL_classes_6 rfl rfl rfl ?_
  refine g_iconst (npc := 8) dL_classes_7 rfl ?_
  obtain ⟨Q6, h7, hT⟩ := hT
  refine iv_La_9 (npc := 11) dL_classes_8 rfl rfl (Nat.le_of_ble_eq_true rfl) (by decide) (by decide) h7 (fun r9 s8 e10 => ?_)
  replace hT := hT r9 s8 e10
  refine g_istore_n (npc := 12) (l' := [(0, .ref 0), (1, iV r4), (2, iV r9)]) dL_classes_11 rfl rfl (by decide) rfl ?_
  refine g_bipush (npc := 14) (x := 8) dL_classes_12 rfl (by decide) ?_
  replace hT := hT _ rfl
  refine g_newI (npc := 16) (n := 0) dL_classes_14 rfl tw_newI (by decide) (by decide) (fI_nr _) rfl rfl ?_
  refine g_astore_n (npc := 17) (l' := [(0, .ref 0), (1, iV r4), (2, iV r9), (3, .ref 190)]) dL_classes_16 rfl rfl (by decide) rfl ?_
  refine g_bipush (npc := 19) (x := 8) dL_classes_17 rfl (by decide) ?_
  replace hT := hT _ rfl
  refine g_newI (npc := 21) (n := 1) dL_classes_19 rfl tw_newI (by decide) (by decide) (fI_nr _) rfl rfl ?_
  refine g_astore (npc := 23) (l' := [(0, .ref 0), (1, iV r4), (2, iV r9), (3, .ref 190), (4, .ref 191)]) dL_classes_21 rfl (by decide) rfl ?_
  refine g_bipush (npc := 25) (x := 8) dL_classes_23 rfl (by decide) ?_
  replace hT := hT _ rfl
  refine g_newI (npc := 27) (n := 2) dL_classes_25 rfl tw_newI (by decide) (by decide) (fI_nr _) rfl rfl ?_
  refine g_astore (npc := 29) (l' := [(0, .ref 0), (1, iV r4), (2, iV r9), (3, .ref 190), (4, .ref 191), (5, .ref 192)]) dL_classes_27 rfl (by decide) rfl ?_
  refine g_aload_n (npc := 30) dL_classes_29 rfl rfl rfl ?_
  refine g_aload_n (npc := 31) dL_classes_30 rfl rfl rfl ?_
  obtain ⟨Q14, h15, hT⟩ := hT
  refine iv_La_26 (npc := 34) dL_classes_31 rfl rfl (Nat.le_of_ble_eq_true rfl) (by decide) (by decide) h15 (fun s16 e18 => ?_)
  replace hT := hT s16 e18
  refine g_aload_n (npc := 35) dL_classes_34 rfl rfl rfl ?_
  refine g_iconst (npc := 36) dL_classes_35 rfl ?_
  obtain ⟨Q19, h20, hT⟩ := hT
  refine iv_La_81 (npc := 39) dL_classes_36 rfl rfl (Nat.le_of_ble_eq_true rfl) (by decide) (by decide) h20 (fun r22 s21 e23 => ?_)
  replace hT := hT r22 s21 e23
  refine g_pop (npc := 40) dL_classes_39 rfl rfl ?_
  refine g_aload_n (npc := 41) dL_classes_40 rfl rfl rfl ?_
  obtain ⟨Q24, h25, hT⟩ := hT
  refine iv_La_36 (npc := 44) dL_classes_41 rfl rfl (Nat.le_of_ble_eq_true rfl) (by decide) (by decide) h25 (fun r27 s26 e28 => ?_)
  replace hT := hT r27 s26 e28
  refine g_istore (npc := 46) (l' := [(0, .ref 0), (1, iV r4), (2, iV r9), (3, .ref 190), (4, .ref 191), (5, .ref 192), (6, iV r27)]) dL_classes_44 rfl (by decide) rfl ?_
  refine g_aload_n (npc := 47) dL_classes_46 rfl rfl rfl ?_
  refine g_aload (npc := 49) dL_classes_47 rfl rfl ?_
  obtain ⟨Q29, h30, hT⟩ := hT
  refine iv_La_26 (npc := 52) dL_classes_49 rfl rfl (Nat.le_of_ble_eq_true rfl) (by decide) (by decide) h30 (fun s31 e33 => ?_)
  replace hT := hT s31 e33
  refine g_iload (npc := 54) dL_classes_52 rfl rfl ?_
  obtain ⟨h34, hTt, hTf⟩ := hT
  refine g_if_lt (npc := 57) (tgt := 83) dL_classes_54 rfl (by decide) h34 (fun c35 => ?_) (fun c35 => ?_)
  · replace hT := hTt c35
    refine g_iconst (npc := 84) dL_classes_83 rfl ?_
    exact g_iret dL_classes_84 rfl (by decide) (by decide) ⟨_, rfl, hT⟩
  · replace hT := hTf (Int.not_lt.mp c35)
    refine g_aload_n (npc := 58) dL_classes_57 rfl rfl rfl ?_
    obtain ⟨Q36, h37, hT⟩ := hT
    refine iv_La_49 (npc := 61) dL_classes_58 rfl rfl (Nat.le_of_ble_eq_true rfl) (by decide) (by decide) h37 (fun r39 s38 e40 => ?_)
    replace hT := hT r39 s38 e40
    refine g_iconst (npc := 62) dL_classes_61 rfl ?_
    refine g_iand (npc := 63) dL_classes_62 rfl ?_
    refine g_iconst (npc := 64) dL_classes_63 rfl ?_
    obtain ⟨h41, hTt, hTf⟩ := hT
    refine g_icmp_ne (npc := 67) (tgt := 83) dL_classes_64 rfl (by decide) ⟨h41, by decide, by decide⟩ (fun c42 => ?_) (fun c42 => ?_)
    · replace hT := hTt c42
      refine g_iconst (npc := 84) dL_classes_83 rfl ?_
      exact g_iret dL_classes_84 rfl (by decide) (by decide) ⟨_, rfl, hT⟩
    · replace hT := hTf (Decidable.not_not.mp c42)
      refine g_aload_n (npc := 68) dL_classes_67 rfl rfl rfl ?_
      obtain ⟨Q43, h44, hT⟩ := hT
      refine iv_La_36 (npc := 71) dL_classes_68 rfl rfl (Nat.le_of_ble_eq_true rfl) (by decide) (by decide) h44 (fun r46 s45 e47 => ?_)
      replace hT := hT r46 s45 e47
      obtain ⟨h48, hTt, hTf⟩ := hT
      refine g_if_ne (npc := 74) (tgt := 83) dL_classes_71 rfl (by decide) h48 (fun c49 => ?_) (fun c49 => ?_)
      · replace hT := hTt c49
        refine g_iconst (npc := 84) dL_classes_83 rfl ?_
        exact g_iret dL_classes_84 rfl (by decide) (by decide) ⟨_, rfl, hT⟩
      · replace hT := hTf (Decidable.not_not.mp c49)
        refine g_aload_n (npc := 75) dL_classes_74 rfl rfl rfl ?_
        refine g_iconst (npc := 76) dL_classes_75 rfl ?_
        obtain ⟨Q50, h51, hT⟩ := hT
        refine iv_La_84 (npc := 79) dL_classes_76 rfl rfl (Nat.le_of_ble_eq_true rfl) (by decide) (by decide) h51 (fun r53 s52 e54 => ?_)
        replace hT := hT r53 s52 e54
        refine g_iconst (npc := 80) dL_classes_79 rfl ?_
        obtain ⟨h55, hTt, hTf⟩ := hT
        refine g_icmp_eq (npc := 83) (tgt := 85) dL_classes_80 rfl (by decide) ⟨h55, by decide, by decide⟩ (fun c56 => ?_) (fun c56 => ?_)
        · replace hT := hTt c56
          refine g_iconst (npc := 86) dL_classes_85 rfl ?_
          refine g_istore (npc := 88) (l' := [(0, .ref 0), (1, iV r4), (2, iV r9), (3, .ref 190), (4, .ref 191), (5, .ref 192), (6, iV r27), (7, iV 0)]) dL_classes_86 rfl (by decide) rfl ?_
          refine Go.lsub [0, 1, 2, 3, 4, 5, 7] rfl ?_
          exact hT
        · replace hT := hTf c56
          refine g_iconst (npc := 84) dL_classes_83 rfl ?_
          exact g_iret dL_classes_84 rfl (by decide) (by decide) ⟨_, rfl, hT⟩
abbrev H_La_group_17 (n : Nat) (Q : Int → Sto → Prop) (x1 : Int) (x3 : Int) (x5 : Int) (x7 : Int) (s : Sto) : Prop := Go (SL n) M_La_group (fI Q) 0 0 17 [(0, .ref 0), (1, jV x1), (3, jV x3), (5, jV x5), (7, iV x7)] [] s
abbrev H_La_group_90 (n : Nat) (Q : Int → Sto → Prop) (x1 : Int) (x3 : Int) (x5 : Int) (x7 : Int) (x9 : Int) (x10 : Int) (s : Sto) : Prop := Go (SL n) M_La_group (fI Q) 0 0 90 [(0, .ref 0), (1, jV x1), (3, jV x3), (5, jV x5), (7, jV x7), (9, iV x9), (10, iV x10)] [] s
abbrev H_La_group_190 (n : Nat) (Q : Int → Sto → Prop) (x1 : Int) (x10 : Int) (x11 : Int) (s : Sto) : Prop := Go (SL n) M_La_group (fI Q) 0 0 190 [(0, .ref 0), (1, jV x1), (10, iV x10), (11, iV x11)] [] s
set_option maxRecDepth 20000 in
theorem b_La_group_17 {n : Nat} {Q : Int → Sto → Prop} {x1 : Int} {x3 : Int} {x5 : Int} {x7 : Int} {s : Sto} (hT : (-2147483648 ≤ x7 ∧ x7 < 2147483648) ∧ ((-9223372036854775808 ≤ x7 ∧ x7 < 9223372036854775808) ∧ -9223372036854775808 ≤ x5 ∧ x5 < 9223372036854775808) ∧ ((x5 ≤ x7) → ∃ Q14 : Int → Sto → Prop, K_Cg_value n 1 s Q14 ∧ ∀ r17 s16, Q14 r17 s16 → H_La_group_90 n Q x1 x3 x5 0 r17 0 s16) ∧ ((x7 < x5) → ∃ Q19 : Int → Sto → Prop, K_Cg_factor n x7 s Q19 ∧ ∀ r22 s21, Q19 r22 s21 → (-9223372036854775808 ≤ r22 ∧ r22 < 9223372036854775808) ∧ ((r22 < 2) → Q 0 s21) ∧ ((2 ≤ r22) → (-2147483648 ≤ x7 ∧ x7 < 2147483648) ∧ ((x7 ≤ 0) → H_La_group_17 n Q x1 (x3 * r22) x5 (x7 + 1) s21) ∧ ((0 < x7) → ∃ Q28 : Int → Sto → Prop, K_Cg_factor n (x7 - 1) s21 Q28 ∧ ∀ r31 s30, Q28 r31 s30 → (((-9223372036854775808 ≤ r22 ∧ r22 < 9223372036854775808) ∧ -9223372036854775808 ≤ r31 ∧ r31 < 9223372036854775808) ∧ ¬ r31 = 0) ∧ (-9223372036854775808 ≤ (Int.tmod r22 r31) ∧ (Int.tmod r22 r31) < 9223372036854775808) ∧ (((Int.tmod r22 r31) = 0) → H_La_group_17 n Q x1 (x3 * r22) x5 (x7 + 1) s30) ∧ ((¬ (Int.tmod r22 r31) = 0) → Q 0 s30))))) : H_La_group_17 n Q x1 x3 x5 x7 s := by
  refine g_iload (npc := 19) dL_group_17 rfl rfl ?_
  obtain ⟨h11, hT⟩ := hT
  refine g_i2l (npc := 20) dL_group_19 rfl h11 ?_
  refine g_lload (npc := 22) dL_group_20 rfl rfl ?_
  obtain ⟨h12, hTt, hTf⟩ := hT
  refine g_lge (pc2 := 23) (npc := 26) (tgt := 77) dL_group_22 rfl dL_group_23 rfl (by decide) h12 (fun c13 => ?_) (fun c13 => ?_)
  · replace hT := hTt c13
    refine g_lconst (npc := 78) (x := 0) dL_group_77 rfl (by decide) ?_
    refine g_lstore (npc := 80) (l' := [(0, .ref 0), (1, jV x1), (3, jV x3), (5, jV x5), (7, jV 0)]) dL_group_78 rfl (by decide) rfl ?_
    refine g_aload_n (npc := 81) dL_group_80 rfl rfl rfl ?_
    refine g_iconst (npc := 82) dL_group_81 rfl ?_
    obtain ⟨Q14, h15, hT⟩ := hT
    refine iv_La_9 (npc := 85) dL_group_82 rfl rfl (Nat.le_of_ble_eq_true rfl) (by decide) (by decide) h15 (fun r17 s16 e18 => ?_)
    replace hT := hT r17 s16 e18
    refine g_istore (npc := 87) (l' := [(0, .ref 0), (1, jV x1), (3, jV x3), (5, jV x5), (7, jV 0), (9, iV r17)]) dL_group_85 rfl (by decide) rfl ?_
    refine g_iconst (npc := 88) dL_group_87 rfl ?_
    refine g_istore (npc := 90) (l' := [(0, .ref 0), (1, jV x1), (3, jV x3), (5, jV x5), (7, jV 0), (9, iV r17), (10, iV 0)]) dL_group_88 rfl (by decide) rfl ?_
    exact hT
  · replace hT := hTf (Int.not_le.mp c13)
    refine g_aload_n (npc := 27) dL_group_26 rfl rfl rfl ?_
    refine g_iload (npc := 29) dL_group_27 rfl rfl ?_
    obtain ⟨Q19, h20, hT⟩ := hT
    refine iv_La_52 (npc := 32) dL_group_29 rfl rfl (Nat.le_of_ble_eq_true rfl) (by decide) (by decide) h20 (fun r22 s21 e23 => ?_)
    replace hT := hT r22 s21 e23
    refine g_lstore (npc := 34) (l' := [(0, .ref 0), (1, jV x1), (3, jV x3), (5, jV x5), (7, iV x7), (8, jV r22)]) dL_group_32 rfl (by decide) rfl ?_
    refine g_lload (npc := 36) dL_group_34 rfl rfl ?_
    refine g_ldc2 (npc := 39) (x := 2) dL_group_36 rfl tw_761 ?_
    obtain ⟨h24, hTt, hTf⟩ := hT
    refine g_llt (pc2 := 40) (npc := 43) (tgt := 64) dL_group_39 rfl dL_group_40 rfl (by decide) ⟨h24, by decide, by decide⟩ (fun c25 => ?_) (fun c25 => ?_)
    · replace hT := hTt c25
      refine g_iconst (npc := 65) dL_group_64 rfl ?_
      exact g_iret dL_group_65 rfl (by decide) (by decide) ⟨_, rfl, hT⟩
    · replace hT := hTf (Int.not_lt.mp c25)
      refine g_iload (npc := 45) dL_group_43 rfl rfl ?_
      obtain ⟨h26, hTt, hTf⟩ := hT
      refine g_if_le (npc := 48) (tgt := 66) dL_group_45 rfl (by decide) h26 (fun c27 => ?_) (fun c27 => ?_)
      · replace hT := hTt c27
        refine g_lload_n (npc := 67) dL_group_66 rfl rfl rfl ?_
        refine g_lload (npc := 69) dL_group_67 rfl rfl ?_
        refine g_lmul (npc := 70) dL_group_69 rfl ?_
        refine g_lstore_n (npc := 71) (l' := [(0, .ref 0), (1, jV x1), (3, jV (x3 * r22)), (5, jV x5), (7, iV x7), (8, jV r22)]) dL_group_70 rfl rfl (by decide) rfl ?_
        refine g_iinc (npc := 74) (y := (x7 + 1)) (l' := [(0, .ref 0), (1, jV x1), (3, jV (x3 * r22)), (5, jV x5), (7, iV (x7 + 1)), (8, jV r22)]) dL_group_71 rfl (by decide) rfl (by omega) rfl ?_
        refine g_goto (npc := 17) dL_group_74 (by decide) ?_
        refine Go.lsub [0, 1, 2, 3, 4] rfl ?_
        exact hT
      · replace hT := hTf (Int.not_le.mp c27)
        refine g_lload (npc := 50) dL_group_48 rfl rfl ?_
        refine g_aload_n (npc := 51) dL_group_50 rfl rfl rfl ?_
        refine g_iload (npc := 53) dL_group_51 rfl rfl ?_
        refine g_iconst (npc := 54) dL_group_53 rfl ?_
        refine g_isub (npc := 55) dL_group_54 rfl ?_
        obtain ⟨Q28, h29, hT⟩ := hT
        refine iv_La_52 (npc := 58) dL_group_55 rfl rfl (Nat.le_of_ble_eq_true rfl) (by decide) (by decide) h29 (fun r31 s30 e32 => ?_)
        replace hT := hT r31 s30 e32
        obtain ⟨h33, hT⟩ := hT
        refine g_lrem (npc := 59) dL_group_58 rfl h33.1 h33.2 ?_
        refine g_lconst (npc := 60) (x := 0) dL_group_59 rfl (by decide) ?_
        obtain ⟨h34, hTt, hTf⟩ := hT
        refine g_leq (pc2 := 61) (npc := 64) (tgt := 66) dL_group_60 rfl dL_group_61 rfl (by decide) ⟨h34, by decide, by decide⟩ (fun c35 => ?_) (fun c35 => ?_)
        · replace hT := hTt c35
          refine g_lload_n (npc := 67) dL_group_66 rfl rfl rfl ?_
          refine g_lload (npc := 69) dL_group_67 rfl rfl ?_
          refine g_lmul (npc := 70) dL_group_69 rfl ?_
          refine g_lstore_n (npc := 71) (l' := [(0, .ref 0), (1, jV x1), (3, jV (x3 * r22)), (5, jV x5), (7, iV x7), (8, jV r22)]) dL_group_70 rfl rfl (by decide) rfl ?_
          refine g_iinc (npc := 74) (y := (x7 + 1)) (l' := [(0, .ref 0), (1, jV x1), (3, jV (x3 * r22)), (5, jV x5), (7, iV (x7 + 1)), (8, jV r22)]) dL_group_71 rfl (by decide) rfl (by omega) rfl ?_
          refine g_goto (npc := 17) dL_group_74 (by decide) ?_
          refine Go.lsub [0, 1, 2, 3, 4] rfl ?_
          exact hT
        · replace hT := hTf c35
          refine g_iconst (npc := 65) dL_group_64 rfl ?_
          exact g_iret dL_group_65 rfl (by decide) (by decide) ⟨_, rfl, hT⟩
set_option maxRecDepth 20000 in
theorem b_La_group_90 {n : Nat} {Q : Int → Sto → Prop} {x1 : Int} {x3 : Int} {x5 : Int} {x7 : Int} {x9 : Int} {x10 : Int} {s : Sto} (hT : ((-2147483648 ≤ x10 ∧ x10 < 2147483648) ∧ -2147483648 ≤ x9 ∧ x9 < 2147483648) ∧ ((x9 < x10) → ((-9223372036854775808 ≤ x3 ∧ x3 < 9223372036854775808) ∧ -9223372036854775808 ≤ x1 ∧ x1 < 9223372036854775808) ∧ ((¬ x3 = x1) → Q 0 s) ∧ ((x3 = x1) → ((-9223372036854775808 ≤ x7 ∧ x7 < 9223372036854775808) ∧ -9223372036854775808 ≤ x1 ∧ x1 < 9223372036854775808) ∧ ((¬ x7 = x1) → Q 0 s) ∧ ((x7 = x1) → ∃ Q42 : Int → Sto → Prop, K_Cg_levelCount n 0 s Q42 ∧ ∀ r45 s44, Q42 r45 s44 → (-2147483648 ≤ r45 ∧ r45 < 2147483648) ∧ ((r45 < 1) → Q 0 s44) ∧ ((1 ≤ r45) → ∃ Q49 : Int → Sto → Prop, K_Cg_levelCount n (x9 + 1) s44 Q49 ∧ ∀ r52 s51, Q49 r52 s51 → (-2147483648 ≤ r52 ∧ r52 < 2147483648) ∧ ((¬ r52 = 0) → Q 0 s51) ∧ ((r52 = 0) → ∃ Q56 : Int → Sto → Prop, K_Cg_levelCount n (-1) s51 Q56 ∧ ∀ r59 s58, Q56 r59 s58 → (-2147483648 ≤ r59 ∧ r59 < 2147483648) ∧ ((¬ r59 = (-10002)) → Q 0 s58) ∧ ((r59 = (-10002)) → ∃ Q63 : Int → Sto → Prop, K_Cg_factor n x5 s58 Q63 ∧ ∀ r66 s65, Q63 r66 s65 → (-9223372036854775808 ≤ r66 ∧ r66 < 9223372036854775808) ∧ ((0 < r66) → Q 0 s65) ∧ ((r66 ≤ 0) → ∃ Q70 : Int → Sto → Prop, K_Cg_factor n (-2) s65 Q70 ∧ ∀ r73 s72, Q70 r73 s72 → (-9223372036854775808 ≤ r73 ∧ r73 < 9223372036854775808) ∧ ((r73 ≤ 0) → H_La_group_190 n Q x1 (-1) 0 s72) ∧ ((0 < r73) → Q 0 s72)))))))) ∧ ((x10 ≤ x9) → ∃ Q77 : Int → Sto → Prop, K_Cg_levelCount n x10 s Q77 ∧ ∀ r80 s79, Q77 r80 s79 → (-2147483648 ≤ r80 ∧ r80 < 2147483648) ∧ H_La_group_90 n Q x1 x3 x5 (x7 + r80) x9 (x10 + 1) s79)) : H_La_group_90 n Q x1 x3 x5 x7 x9 x10 s := by
  refine g_iload (npc := 92) dL_group_90 rfl rfl ?_
  refine g_iload (npc := 94) dL_group_92 rfl rfl ?_
  obtain ⟨h36, hTt, hTf⟩ := hT
  refine g_icmp_gt (npc := 97) (tgt := 115) dL_group_94 rfl (by decide) h36 (fun c37 => ?_) (fun c37 => ?_)
  · replace hT := hTt c37
    refine g_lload_n (npc := 116) dL_group_115 rfl rfl rfl ?_
    refine g_lload_n (npc := 117) dL_group_116 rfl rfl rfl ?_
    obtain ⟨h38, hTt, hTf⟩ := hT
    refine g_lne (pc2 := 118) (npc := 121) (tgt := 182) dL_group_117 rfl dL_group_118 rfl (by decide) h38 (fun c39 => ?_) (fun c39 => ?_)
    · replace hT := hTt c39
      refine g_iconst (npc := 183) dL_group_182 rfl ?_
      exact g_iret dL_group_183 rfl (by decide) (by decide) ⟨_, rfl, hT⟩
    · replace hT := hTf (Decidable.not_not.mp c39)
      refine g_lload (npc := 123) dL_group_121 rfl rfl ?_
      refine g_lload_n (npc := 124) dL_group_123 rfl rfl rfl ?_
      obtain ⟨h40, hTt, hTf⟩ := hT
      refine g_lne (pc2 := 125) (npc := 128) (tgt := 182) dL_group_124 rfl dL_group_125 rfl (by decide) h40 (fun c41 => ?_) (fun c41 => ?_)
      · replace hT := hTt c41
        refine g_iconst (npc := 183) dL_group_182 rfl ?_
        exact g_iret dL_group_183 rfl (by decide) (by decide) ⟨_, rfl, hT⟩
      · replace hT := hTf (Decidable.not_not.mp c41)
        refine g_aload_n (npc := 129) dL_group_128 rfl rfl rfl ?_
        refine g_iconst (npc := 130) dL_group_129 rfl ?_
        obtain ⟨Q42, h43, hT⟩ := hT
        refine iv_La_58 (npc := 133) dL_group_130 rfl rfl (Nat.le_of_ble_eq_true rfl) (by decide) (by decide) h43 (fun r45 s44 e46 => ?_)
        replace hT := hT r45 s44 e46
        refine g_iconst (npc := 134) dL_group_133 rfl ?_
        obtain ⟨h47, hTt, hTf⟩ := hT
        refine g_icmp_lt (npc := 137) (tgt := 182) dL_group_134 rfl (by decide) ⟨h47, by decide, by decide⟩ (fun c48 => ?_) (fun c48 => ?_)
        · replace hT := hTt c48
          refine g_iconst (npc := 183) dL_group_182 rfl ?_
          exact g_iret dL_group_183 rfl (by decide) (by decide) ⟨_, rfl, hT⟩
        · replace hT := hTf (Int.not_lt.mp c48)
          refine g_aload_n (npc := 138) dL_group_137 rfl rfl rfl ?_
          refine g_iload (npc := 140) dL_group_138 rfl rfl ?_
          refine g_iconst (npc := 141) dL_group_140 rfl ?_
          refine g_iadd (npc := 142) dL_group_141 rfl ?_
          obtain ⟨Q49, h50, hT⟩ := hT
          refine iv_La_58 (npc := 145) dL_group_142 rfl rfl (Nat.le_of_ble_eq_true rfl) (by decide) (by decide) h50 (fun r52 s51 e53 => ?_)
          replace hT := hT r52 s51 e53
          obtain ⟨h54, hTt, hTf⟩ := hT
          refine g_if_ne (npc := 148) (tgt := 182) dL_group_145 rfl (by decide) h54 (fun c55 => ?_) (fun c55 => ?_)
          · replace hT := hTt c55
            refine g_iconst (npc := 183) dL_group_182 rfl ?_
            exact g_iret dL_group_183 rfl (by decide) (by decide) ⟨_, rfl, hT⟩
          · replace hT := hTf (Decidable.not_not.mp c55)
            refine g_aload_n (npc := 149) dL_group_148 rfl rfl rfl ?_
            refine g_iconst (npc := 150) dL_group_149 rfl ?_
            obtain ⟨Q56, h57, hT⟩ := hT
            refine iv_La_58 (npc := 153) dL_group_150 rfl rfl (Nat.le_of_ble_eq_true rfl) (by decide) (by decide) h57 (fun r59 s58 e60 => ?_)
            replace hT := hT r59 s58 e60
            refine g_sipush (npc := 156) (x := (-10002)) dL_group_153 rfl (by decide) ?_
            obtain ⟨h61, hTt, hTf⟩ := hT
            refine g_icmp_ne (npc := 159) (tgt := 182) dL_group_156 rfl (by decide) ⟨h61, by decide, by decide⟩ (fun c62 => ?_) (fun c62 => ?_)
            · replace hT := hTt c62
              refine g_iconst (npc := 183) dL_group_182 rfl ?_
              exact g_iret dL_group_183 rfl (by decide) (by decide) ⟨_, rfl, hT⟩
            · replace hT := hTf (Decidable.not_not.mp c62)
              refine g_aload_n (npc := 160) dL_group_159 rfl rfl rfl ?_
              refine g_lload (npc := 162) dL_group_160 rfl rfl ?_
              refine g_l2i (npc := 163) dL_group_162 rfl ?_
              obtain ⟨Q63, h64, hT⟩ := hT
              refine iv_La_52 (npc := 166) dL_group_163 rfl rfl (Nat.le_of_ble_eq_true rfl) (by decide) (by decide) h64 (fun r66 s65 e67 => ?_)
              replace hT := hT r66 s65 e67
              refine g_lconst (npc := 167) (x := 0) dL_group_166 rfl (by decide) ?_
              obtain ⟨h68, hTt, hTf⟩ := hT
              refine g_lgt (pc2 := 168) (npc := 171) (tgt := 182) dL_group_167 rfl dL_group_168 rfl (by decide) ⟨h68, by decide, by decide⟩ (fun c69 => ?_) (fun c69 => ?_)
              · replace hT := hTt c69
                refine g_iconst (npc := 183) dL_group_182 rfl ?_
                exact g_iret dL_group_183 rfl (by decide) (by decide) ⟨_, rfl, hT⟩
              · replace hT := hTf (Int.not_lt.mp c69)
                refine g_aload_n (npc := 172) dL_group_171 rfl rfl rfl ?_
                refine g_bipush (npc := 174) (x := (-2)) dL_group_172 rfl (by decide) ?_
                obtain ⟨Q70, h71, hT⟩ := hT
                refine iv_La_52 (npc := 177) dL_group_174 rfl rfl (Nat.le_of_ble_eq_true rfl) (by decide) (by decide) h71 (fun r73 s72 e74 => ?_)
                replace hT := hT r73 s72 e74
                refine g_lconst (npc := 178) (x := 0) dL_group_177 rfl (by decide) ?_
                obtain ⟨h75, hTt, hTf⟩ := hT
                refine g_lle (pc2 := 179) (npc := 182) (tgt := 184) dL_group_178 rfl dL_group_179 rfl (by decide) ⟨h75, by decide, by decide⟩ (fun c76 => ?_) (fun c76 => ?_)
                · replace hT := hTt c76
                  refine g_iconst (npc := 185) dL_group_184 rfl ?_
                  refine g_istore (npc := 187) (l' := [(0, .ref 0), (1, jV x1), (3, jV x3), (5, jV x5), (7, jV x7), (9, iV x9), (10, iV (-1))]) dL_group_185 rfl (by decide) rfl ?_
                  refine g_iconst (npc := 188) dL_group_187 rfl ?_
                  refine g_istore (npc := 190) (l' := [(0, .ref 0), (1, jV x1), (3, jV x3), (5, jV x5), (7, jV x7), (9, iV x9), (10, iV (-1)), (11, iV 0)]) dL_group_188 rfl (by decide) rfl ?_
                  refine Go.lsub [0, 1, 6, 7] rfl ?_
                  exact hT
                · replace hT := hTf (Int.not_le.mp c76)
                  refine g_iconst (npc := 183) dL_group_182 rfl ?_
                  exact g_iret dL_group_183 rfl (by decide) (by decide) ⟨_, rfl, hT⟩
  · replace hT := hTf (Int.not_lt.mp c37)
    refine g_lload (npc := 99) dL_group_97 rfl rfl ?_
    refine g_aload_n (npc := 100) dL_group_99 rfl rfl rfl ?_
    refine g_iload (npc := 102) dL_group_100 rfl rfl ?_
    obtain ⟨Q77, h78, hT⟩ := hT
    refine iv_La_58 (npc := 105) dL_group_102 rfl rfl (Nat.le_of_ble_eq_true rfl) (by decide) (by decide) h78 (fun r80 s79 e81 => ?_)
    replace hT := hT r80 s79 e81
    obtain ⟨h82, hT⟩ := hT
    refine g_i2l (npc := 106) dL_group_105 rfl h82 ?_
    refine g_ladd (npc := 107) dL_group_106 rfl ?_
    refine g_lstore (npc := 109) (l' := [(0, .ref 0), (1, jV x1), (3, jV x3), (5, jV x5), (7, jV (x7 + r80)), (9, iV x9), (10, iV x10)]) dL_group_107 rfl (by decide) rfl ?_
    refine g_iinc (npc := 112) (y := (x10 + 1)) (l' := [(0, .ref 0), (1, jV x1), (3, jV x3), (5, jV x5), (7, jV (x7 + r80)), (9, iV x9), (10, iV (x10 + 1))]) dL_group_109 rfl (by decide) rfl (by omega) rfl ?_
    refine g_goto (npc := 90) dL_group_112 (by decide) ?_
    exact hT
set_option maxRecDepth 20000 in
theorem b_La_group_190 {n : Nat} {Q : Int → Sto → Prop} {x1 : Int} {x10 : Int} {x11 : Int} {s : Sto} (hT : (-2147483648 ≤ x11 ∧ x11 < 2147483648) ∧ ∃ J96 : Prop, (J96 → (-9223372036854775808 ≤ x1 ∧ x1 < 9223372036854775808) ∧ ((400 < x1) → Q 1 s) ∧ ((x1 ≤ 400) → ∃ Q101 : Int → Sto → Prop, K_Cg_treeAt n x1 s Q101 ∧ ∀ r104 s103, Q101 r104 s103 → (-2147483648 ≤ r104 ∧ r104 < 2147483648) ∧ ((¬ r104 = (-10007)) → Q 0 s103) ∧ ((r104 = (-10007)) → ∃ Q108 : Int → Sto → Prop, K_Cg_treeAt n (x1 - 1) s103 Q108 ∧ ∀ r111 s110, Q108 r111 s110 → (-2147483648 ≤ r111 ∧ r111 < 2147483648) ∧ ((r111 ≤ 0) → Q 0 s110) ∧ ((0 < r111) → ∃ Q115 : Int → Sto → Prop, K_Cg_treeAt n (-1) s110 Q115 ∧ ∀ r118 s117, Q115 r118 s117 → (-2147483648 ≤ r118 ∧ r118 < 2147483648) ∧ ((¬ r118 = (-10002)) → Q 0 s117) ∧ ((r118 = (-10002)) → Q 1 s117))))) ∧ ((-9223372036854775808 ≤ x11 ∧ x11 < 9223372036854775808) ∧ -9223372036854775808 ≤ x1 ∧ x1 < 9223372036854775808) ∧ ((x1 ≤ x11) → J96) ∧ ((x11 < x1) → (-2147483648 ≤ x11 ∧ x11 < 2147483648) ∧ ((12 ≤ x11) → J96) ∧ ((x11 < 12) → ∃ Q126 : Int → Sto → Prop, K_Cg_treeAt n x11 s Q126 ∧ ∀ r129 s128, Q126 r129 s128 → ((-2147483648 ≤ r129 ∧ r129 < 2147483648) ∧ -2147483648 ≤ x10 ∧ x10 < 2147483648) ∧ ((r129 ≤ x10) → Q 0 s128) ∧ ((x10 < r129) → ∃ Q133 : Int → Sto → Prop, K_Cg_takeTree n r129 s128 Q133 ∧ ∀ r136 s135, Q133 r136 s135 → (-2147483648 ≤ r136 ∧ r136 < 2147483648) ∧ ((r136 < 0) → Q 0 s135) ∧ ((0 ≤ r136) → ∃ Q140 : Int → Sto → Prop, K_Cg_kind n s135 Q140 ∧ ∀ r143 s142, Q140 r143 s142 → (-2147483648 ≤ (iand r143 2) ∧ (iand r143 2) < 2147483648) ∧ (((iand r143 2) = 0) → Q 0 s142) ∧ ((¬ (iand r143 2) = 0) → ∃ Q147 : Int → Sto → Prop, K_Cg_tree n s142 Q147 ∧ ∀ r150 s149, Q147 r150 s149 → ((-2147483648 ≤ r150 ∧ r150 < 2147483648) ∧ -2147483648 ≤ r129 ∧ r129 < 2147483648) ∧ ((¬ r150 = r129) → Q 0 s149) ∧ ((r150 = r129) → ∃ Q154 : Int → Sto → Prop, K_Cg_level n s149 Q154 ∧ ∀ r157 s156, Q154 r157 s156 → (-2147483648 ≤ r157 ∧ r157 < 2147483648) ∧ ((0 ≤ r157) → H_La_group_190 n Q x1 r129 (x11 + 1) s156) ∧ ((r157 < 0) → Q 0 s156)))))))) : H_La_group_190 n Q x1 x10 x11 s := by
  refine g_iload (npc := 192) dL_group_190 rfl rfl ?_
  obtain ⟨h83, hT⟩ := hT
  refine g_i2l (npc := 193) dL_group_192 rfl h83 ?_
  refine g_lload_n (npc := 194) dL_group_193 rfl rfl rfl ?_
  obtain ⟨J96, hT⟩ := hT
  obtain ⟨hj122, hT⟩ := hT
  have K123 : J96 → Go (SL n) M_La_group (fI Q) 0 0 266 [(0, .ref 0), (1, jV x1)] [] s := by
    intro  q161
    replace hT := hj122  q161
    refine g_lload_n (npc := 267) dL_group_266 rfl rfl rfl ?_
    refine g_ldc2 (npc := 270) (x := 400) dL_group_267 rfl tw_771 ?_
    obtain ⟨h99, hTt, hTf⟩ := hT
    refine g_lgt (pc2 := 271) (npc := 274) (tgt := 308) dL_group_270 rfl dL_group_271 rfl (by decide) ⟨h99, by decide, by decide⟩ (fun c100 => ?_) (fun c100 => ?_)
    · replace hT := hTt c100
      refine g_iconst (npc := 309) dL_group_308 rfl ?_
      refine g_goto (npc := 313) dL_group_309 (by decide) ?_
      exact g_iret dL_group_313 rfl (by decide) (by decide) ⟨_, rfl, hT⟩
    · replace hT := hTf (Int.not_lt.mp c100)
      refine g_aload_n (npc := 275) dL_group_274 rfl rfl rfl ?_
      refine g_lload_n (npc := 276) dL_group_275 rfl rfl rfl ?_
      refine g_l2i (npc := 277) dL_group_276 rfl ?_
      obtain ⟨Q101, h102, hT⟩ := hT
      refine iv_La_108 (npc := 280) dL_group_277 rfl rfl (Nat.le_of_ble_eq_true rfl) (by decide) (by decide) h102 (fun r104 s103 e105 => ?_)
      replace hT := hT r104 s103 e105
      refine g_sipush (npc := 283) (x := (-10007)) dL_group_280 rfl (by decide) ?_
      obtain ⟨h106, hTt, hTf⟩ := hT
      refine g_icmp_ne (npc := 286) (tgt := 312) dL_group_283 rfl (by decide) ⟨h106, by decide, by decide⟩ (fun c107 => ?_) (fun c107 => ?_)
      · replace hT := hTt c107
        refine g_iconst (npc := 313) dL_group_312 rfl ?_
        exact g_iret dL_group_313 rfl (by decide) (by decide) ⟨_, rfl, hT⟩
      · replace hT := hTf (Decidable.not_not.mp c107)
        refine g_aload_n (npc := 287) dL_group_286 rfl rfl rfl ?_
        refine g_lload_n (npc := 288) dL_group_287 rfl rfl rfl ?_
        refine g_l2i (npc := 289) dL_group_288 rfl ?_
        refine g_iconst (npc := 290) dL_group_289 rfl ?_
        refine g_isub (npc := 291) dL_group_290 rfl ?_
        obtain ⟨Q108, h109, hT⟩ := hT
        refine iv_La_108 (npc := 294) dL_group_291 rfl rfl (Nat.le_of_ble_eq_true rfl) (by decide) (by decide) h109 (fun r111 s110 e112 => ?_)
        replace hT := hT r111 s110 e112
        obtain ⟨h113, hTt, hTf⟩ := hT
        refine g_if_le (npc := 297) (tgt := 312) dL_group_294 rfl (by decide) h113 (fun c114 => ?_) (fun c114 => ?_)
        · replace hT := hTt c114
          refine g_iconst (npc := 313) dL_group_312 rfl ?_
          exact g_iret dL_group_313 rfl (by decide) (by decide) ⟨_, rfl, hT⟩
        · replace hT := hTf (Int.not_le.mp c114)
          refine g_aload_n (npc := 298) dL_group_297 rfl rfl rfl ?_
          refine g_iconst (npc := 299) dL_group_298 rfl ?_
          obtain ⟨Q115, h116, hT⟩ := hT
          refine iv_La_108 (npc := 302) dL_group_299 rfl rfl (Nat.le_of_ble_eq_true rfl) (by decide) (by decide) h116 (fun r118 s117 e119 => ?_)
          replace hT := hT r118 s117 e119
          refine g_sipush (npc := 305) (x := (-10002)) dL_group_302 rfl (by decide) ?_
          obtain ⟨h120, hTt, hTf⟩ := hT
          refine g_icmp_ne (npc := 308) (tgt := 312) dL_group_305 rfl (by decide) ⟨h120, by decide, by decide⟩ (fun c121 => ?_) (fun c121 => ?_)
          · replace hT := hTt c121
            refine g_iconst (npc := 313) dL_group_312 rfl ?_
            exact g_iret dL_group_313 rfl (by decide) (by decide) ⟨_, rfl, hT⟩
          · replace hT := hTf (Decidable.not_not.mp c121)
            refine g_iconst (npc := 309) dL_group_308 rfl ?_
            refine g_goto (npc := 313) dL_group_309 (by decide) ?_
            exact g_iret dL_group_313 rfl (by decide) (by decide) ⟨_, rfl, hT⟩
  obtain ⟨h97, hTt, hTf⟩ := hT
  refine g_lge (pc2 := 195) (npc := 198) (tgt := 266) dL_group_194 rfl dL_group_195 rfl (by decide) h97 (fun c98 => ?_) (fun c98 => ?_)
  · replace hT := hTt c98
    refine Go.lsub [0, 1] rfl ?_
    exact K123  hT
  · replace hT := hTf (Int.not_le.mp c98)
    refine g_iload (npc := 200) dL_group_198 rfl rfl ?_
    refine g_bipush (npc := 202) (x := 12) dL_group_200 rfl (by decide) ?_
    obtain ⟨h124, hTt, hTf⟩ := hT
    refine g_icmp_ge (npc := 205) (tgt := 266) dL_group_202 rfl (by decide) ⟨h124, by decide, by decide⟩ (fun c125 => ?_) (fun c125 => ?_)
    · replace hT := hTt c125
      refine Go.lsub [0, 1] rfl ?_
      exact K123  hT
    · replace hT := hTf (Int.not_le.mp c125)
      refine g_aload_n (npc := 206) dL_group_205 rfl rfl rfl ?_
      refine g_iload (npc := 208) dL_group_206 rfl rfl ?_
      obtain ⟨Q126, h127, hT⟩ := hT
      refine iv_La_108 (npc := 211) dL_group_208 rfl rfl (Nat.le_of_ble_eq_true rfl) (by decide) (by decide) h127 (fun r129 s128 e130 => ?_)
      replace hT := hT r129 s128 e130
      refine g_istore (npc := 213) (l' := [(0, .ref 0), (1, jV x1), (10, iV x10), (11, iV x11), (12, iV r129)]) dL_group_211 rfl (by decide) rfl ?_
      refine g_iload (npc := 215) dL_group_213 rfl rfl ?_
      refine g_iload (npc := 217) dL_group_215 rfl rfl ?_
      obtain ⟨h131, hTt, hTf⟩ := hT
      refine g_icmp_le (npc := 220) (tgt := 254) dL_group_217 rfl (by decide) h131 (fun c132 => ?_) (fun c132 => ?_)
      · replace hT := hTt c132
        refine g_iconst (npc := 255) dL_group_254 rfl ?_
        exact g_iret dL_group_255 rfl (by decide) (by decide) ⟨_, rfl, hT⟩
      · replace hT := hTf (Int.not_le.mp c132)
        refine g_aload_n (npc := 221) dL_group_220 rfl rfl rfl ?_
        refine g_iload (npc := 223) dL_group_221 rfl rfl ?_
        obtain ⟨Q133, h134, hT⟩ := hT
        refine iv_La_93 (npc := 226) dL_group_223 rfl rfl (Nat.le_of_ble_eq_true rfl) (by decide) (by decide) h134 (fun r136 s135 e137 => ?_)
        replace hT := hT r136 s135 e137
        obtain ⟨h138, hTt, hTf⟩ := hT
        refine g_if_lt (npc := 229) (tgt := 254) dL_group_226 rfl (by decide) h138 (fun c139 => ?_) (fun c139 => ?_)
        · replace hT := hTt c139
          refine g_iconst (npc := 255) dL_group_254 rfl ?_
          exact g_iret dL_group_255 rfl (by decide) (by decide) ⟨_, rfl, hT⟩
        · replace hT := hTf (Int.not_lt.mp c139)
          refine g_aload_n (npc := 230) dL_group_229 rfl rfl rfl ?_
          obtain ⟨Q140, h141, hT⟩ := hT
          refine iv_La_49 (npc := 233) dL_group_230 rfl rfl (Nat.le_of_ble_eq_true rfl) (by decide) (by decide) h141 (fun r143 s142 e144 => ?_)
          replace hT := hT r143 s142 e144
          refine g_iconst (npc := 234) dL_group_233 rfl ?_
          refine g_iand (npc := 235) dL_group_234 rfl ?_
          obtain ⟨h145, hTt, hTf⟩ := hT
          refine g_if_eq (npc := 238) (tgt := 254) dL_group_235 rfl (by decide) h145 (fun c146 => ?_) (fun c146 => ?_)
          · replace hT := hTt c146
            refine g_iconst (npc := 255) dL_group_254 rfl ?_
            exact g_iret dL_group_255 rfl (by decide) (by decide) ⟨_, rfl, hT⟩
          · replace hT := hTf c146
            refine g_aload_n (npc := 239) dL_group_238 rfl rfl rfl ?_
            obtain ⟨Q147, h148, hT⟩ := hT
            refine iv_La_61 (npc := 242) dL_group_239 rfl rfl (Nat.le_of_ble_eq_true rfl) (by decide) (by decide) h148 (fun r150 s149 e151 => ?_)
            replace hT := hT r150 s149 e151
            refine g_iload (npc := 244) dL_group_242 rfl rfl ?_
            obtain ⟨h152, hTt, hTf⟩ := hT
            refine g_icmp_ne (npc := 247) (tgt := 254) dL_group_244 rfl (by decide) h152 (fun c153 => ?_) (fun c153 => ?_)
            · replace hT := hTt c153
              refine g_iconst (npc := 255) dL_group_254 rfl ?_
              exact g_iret dL_group_255 rfl (by decide) (by decide) ⟨_, rfl, hT⟩
            · replace hT := hTf (Decidable.not_not.mp c153)
              refine g_aload_n (npc := 248) dL_group_247 rfl rfl rfl ?_
              obtain ⟨Q154, h155, hT⟩ := hT
              refine iv_La_90 (npc := 251) dL_group_248 rfl rfl (Nat.le_of_ble_eq_true rfl) (by decide) (by decide) h155 (fun r157 s156 e158 => ?_)
              replace hT := hT r157 s156 e158
              obtain ⟨h159, hTt, hTf⟩ := hT
              refine g_if_ge (npc := 254) (tgt := 256) dL_group_251 rfl (by decide) h159 (fun c160 => ?_) (fun c160 => ?_)
              · replace hT := hTt c160
                refine g_iload (npc := 258) dL_group_256 rfl rfl ?_
                refine g_istore (npc := 260) (l' := [(0, .ref 0), (1, jV x1), (10, iV r129), (11, iV x11), (12, iV r129)]) dL_group_258 rfl (by decide) rfl ?_
                refine g_iinc (npc := 263) (y := (x11 + 1)) (l' := [(0, .ref 0), (1, jV x1), (10, iV r129), (11, iV (x11 + 1)), (12, iV r129)]) dL_group_260 rfl (by decide) rfl (by omega) rfl ?_
                refine g_goto (npc := 190) dL_group_263 (by decide) ?_
                refine Go.lsub [0, 1, 2, 3] rfl ?_
                exact hT
              · replace hT := hTf (Int.not_le.mp c160)
                refine g_iconst (npc := 255) dL_group_254 rfl ?_
                exact g_iret dL_group_255 rfl (by decide) (by decide) ⟨_, rfl, hT⟩
set_option maxRecDepth 20000 in
theorem e_La_group {n : Nat} {s : Sto} {Q : Int → Sto → Prop} (hT : ∃ Q1 : Int → Sto → Prop, K_Cg_treeCount n s Q1 ∧ ∀ r4 s3, Q1 r4 s3 → ∃ Q6 : Int → Sto → Prop, K_Cg_factor n (-1) s3 Q6 ∧ ∀ r9 s8, Q6 r9 s8 → H_La_group_17 n Q r4 1 r9 0 s8) : K_La_group n s Q := by
  refine Sp.body (by decide +kernel) (Nat.le_of_ble_eq_true rfl) ?_
  show Go (SL n) M_La_group (fI Q) 0 0 0 [(0, .ref 0)] [] s
  refine g_aload_n (npc := 1) dL_group_0 rfl rfl rfl ?_
  obtain ⟨Q1, h2, hT⟩ := hT
  refine iv_La_45 (npc := 4) dL_group_1 rfl rfl (Nat.le_of_ble_eq_true rfl) (by decide) (by decide) h2 (fun r4 s3 e5 => ?_)
  replace hT := hT r4 s3 e5
  refine g_lstore_n (npc := 5) (l' := [(0, .ref 0), (1, jV r4)]) dL_group_4 rfl rfl (by decide) rfl ?_
  refine g_lconst (npc := 6) (x := 1) dL_group_5 rfl (by decide) ?_
  refine g_lstore_n (npc := 7) (l' := [(0, .ref 0), (1, jV r4), (3, jV 1)]) dL_group_6 rfl rfl (by decide) rfl ?_
  refine g_aload_n (npc := 8) dL_group_7 rfl rfl rfl ?_
  refine g_iconst (npc := 9) dL_group_8 rfl ?_
  obtain ⟨Q6, h7, hT⟩ := hT
  refine iv_La_52 (npc := 12) dL_group_9 rfl rfl (Nat.le_of_ble_eq_true rfl) (by decide) (by decide) h7 (fun r9 s8 e10 => ?_)
  replace hT := hT r9 s8 e10
  refine g_lstore (npc := 14) (l' := [(0, .ref 0), (1, jV r4), (3, jV 1), (5, jV r9)]) dL_group_12 rfl (by decide) rfl ?_
  refine g_iconst (npc := 15) dL_group_14 rfl ?_
  refine g_istore (npc := 17) (l' := [(0, .ref 0), (1, jV r4), (3, jV 1), (5, jV r9), (7, iV 0)]) dL_group_15 rfl (by decide) rfl ?_
  exact hT
abbrev H_La_burning_17 (n : Nat) (Q : Int → Sto → Prop) (x1 : Int) (x2 : Int) (x3 : Int) (x4 : Int) (s : Sto) : Prop := Go (SL n) M_La_burning (fI Q) 0 0 17 [(0, .ref 0), (1, iV x1), (2, iV x2), (3, iV x3), (4, iV x4)] [] s
abbrev H_La_burning_55 (n : Nat) (Q : Int → Sto → Prop) (x1 : Int) (x2 : Int) (x3 : Int) (x4 : Int) (x5 : Int) (x6 : Int) (x7 : Int) (x8 : Int) (s : Sto) : Prop := Go (SL n) M_La_burning (fI Q) 0 0 55 [(0, .ref 0), (1, iV x1), (2, iV x2), (3, iV x3), (4, iV x4), (5, iV x5), (6, iV x6), (7, iV x7), (8, iV x8)] [] s
set_option maxRecDepth 20000 in
theorem b_La_burning_17 {n : Nat} {Q : Int → Sto → Prop} {x1 : Int} {x2 : Int} {x3 : Int} {x4 : Int} {s : Sto} (hT : ((-2147483648 ≤ x4 ∧ x4 < 2147483648) ∧ -2147483648 ≤ x1 ∧ x1 < 2147483648) ∧ ((x1 ≤ x4) → ∃ Q13 : Int → Sto → Prop, K_Cg_kind n s Q13 ∧ ∀ r16 s15, Q13 r16 s15 → ∃ J19 : Int → Prop, (∀ v18, J19 v18 → ∃ J28 : Sto → Prop, ∃ J36 : Int → Sto → Prop, (∀ s27, J28 s27 → J36 0 s27) ∧ (∀ v34 s35, J36 v34 s35 → ((-2147483648 ≤ v18 ∧ v18 < 2147483648) ∧ -2147483648 ≤ v34 ∧ v34 < 2147483648) ∧ ((¬ v18 = v34) → Q 0 s35) ∧ ((v18 = v34) → Q 1 s35)) ∧ (-2147483648 ≤ x3 ∧ x3 < 2147483648) ∧ ((x3 = 0) → J28 s15) ∧ ((¬ x3 = 0) → ∃ Q45 : Int → Sto → Prop, K_Cg_kind n s15 Q45 ∧ ∀ r48 s47, Q45 r48 s47 → (-2147483648 ≤ (iand r48 1) ∧ (iand r48 1) < 2147483648) ∧ ((¬ (iand r48 1) = 1) → J28 s47) ∧ (((iand r48 1) = 1) → ∃ Q52 : Int → Sto → Prop, K_Cg_value n 3 s47 Q52 ∧ ∀ r55 s54, Q52 r55 s54 → (-2147483648 ≤ r55 ∧ r55 < 2147483648) ∧ ((¬ r55 = 1) → J28 s54) ∧ ((r55 = 1) → J36 1 s54)))) ∧ (-2147483648 ≤ (iand r16 2) ∧ (iand r16 2) < 2147483648) ∧ (((iand r16 2) ≤ 0) → J19 0) ∧ ((0 < (iand r16 2)) → J19 1)) ∧ ((x4 < x1) → ∃ Q64 : Int → Sto → Prop, K_Cg_burnt n x4 s Q64 ∧ ∀ r67 s66, Q64 r67 s66 → (-2147483648 ≤ x3 ∧ x3 < 2147483648) ∧ ((x3 = 0) → H_La_burning_55 n Q x1 x2 0 x4 r67 0 0 0 s66) ∧ ((¬ x3 = 0) → (-2147483648 ≤ r67 ∧ r67 < 2147483648) ∧ ((r67 < 0) → H_La_burning_55 n Q x1 x2 0 x4 r67 0 0 0 s66) ∧ ((0 ≤ r67) → H_La_burning_55 n Q x1 x2 1 x4 r67 0 0 0 s66)))) : H_La_burning_17 n Q x1 x2 x3 x4 s := by
  refine g_iload (npc := 19) dL_burning_17 rfl rfl ?_
  refine g_iload_n (npc := 20) dL_burning_19 rfl rfl rfl ?_
  obtain ⟨h11, hTt, hTf⟩ := hT
  refine g_icmp_ge (npc := 23) (tgt := 237) dL_burning_20 rfl (by decide) h11 (fun c12 => ?_) (fun c12 => ?_)
  · replace hT := hTt c12
    refine g_aload_n (npc := 238) dL_burning_237 rfl rfl rfl ?_
    obtain ⟨Q13, h14, hT⟩ := hT
    refine iv_La_49 (npc := 241) dL_burning_238 rfl rfl (Nat.le_of_ble_eq_true rfl) (by decide) (by decide) h14 (fun r16 s15 e17 => ?_)
    replace hT := hT r16 s15 e17
    refine g_iconst (npc := 242) dL_burning_241 rfl ?_
    refine g_iand (npc := 243) dL_burning_242 rfl ?_
    obtain ⟨J19, hT⟩ := hT
    obtain ⟨hj61, hT⟩ := hT
    have K62 : ∀ (v18 : Int), J19 v18 → Go (SL n) M_La_burning (fI Q) 0 0 251 [(0, .ref 0), (3, iV x3)] [iV v18] s15 := by
      intro v18 q63
      replace hT := hj61 v18 q63
      refine g_iload_n (npc := 252) dL_burning_251 rfl rfl rfl ?_
      obtain ⟨J28, hT⟩ := hT
      obtain ⟨J36, hT⟩ := hT
      obtain ⟨hj39, hT⟩ := hT
      obtain ⟨hj43, hT⟩ := hT
      have K44 : ∀ (v34 : Int) (s35 : Sto), J36 v34 s35 → Go (SL n) M_La_burning (fI Q) 0 0 279 [] [iV v34, iV v18] s35 := by
        intro v34 s35 q59
        replace hT := hj43 v34 s35 q59
        obtain ⟨h41, hTt, hTf⟩ := hT
        refine g_icmp_ne (npc := 282) (tgt := 286) dL_burning_279 rfl (by decide) h41 (fun c42 => ?_) (fun c42 => ?_)
        · replace hT := hTt c42
          refine g_iconst (npc := 287) dL_burning_286 rfl ?_
          exact g_iret dL_burning_287 rfl (by decide) (by decide) ⟨_, rfl, hT⟩
        · replace hT := hTf (Decidable.not_not.mp c42)
          refine g_iconst (npc := 283) dL_burning_282 rfl ?_
          refine g_goto (npc := 287) dL_burning_283 (by decide) ?_
          exact g_iret dL_burning_287 rfl (by decide) (by decide) ⟨_, rfl, hT⟩
      have K40 : ∀ (s27 : Sto), J28 s27 → Go (SL n) M_La_burning (fI Q) 0 0 278 [] [iV v18] s27 := by
        intro s27 q60
        replace hT := hj39 s27 q60
        refine g_iconst (npc := 279) dL_burning_278 rfl ?_
        exact K44 _ _ hT
      obtain ⟨h37, hTt, hTf⟩ := hT
      refine g_if_eq (npc := 255) (tgt := 278) dL_burning_252 rfl (by decide) h37 (fun c38 => ?_) (fun c38 => ?_)
      · replace hT := hTt c38
        refine Go.lsub [] rfl ?_
        exact K40 _ hT
      · replace hT := hTf c38
        refine g_aload_n (npc := 256) dL_burning_255 rfl rfl rfl ?_
        obtain ⟨Q45, h46, hT⟩ := hT
        refine iv_La_49 (npc := 259) dL_burning_256 rfl rfl (Nat.le_of_ble_eq_true rfl) (by decide) (by decide) h46 (fun r48 s47 e49 => ?_)
        replace hT := hT r48 s47 e49
        refine g_iconst (npc := 260) dL_burning_259 rfl ?_
        refine g_iand (npc := 261) dL_burning_260 rfl ?_
        refine g_iconst (npc := 262) dL_burning_261 rfl ?_
        obtain ⟨h50, hTt, hTf⟩ := hT
        refine g_icmp_ne (npc := 265) (tgt := 278) dL_burning_262 rfl (by decide) ⟨h50, by decide, by decide⟩ (fun c51 => ?_) (fun c51 => ?_)
        · replace hT := hTt c51
          refine Go.lsub [] rfl ?_
          exact K40 _ hT
        · replace hT := hTf (Decidable.not_not.mp c51)
          refine g_aload_n (npc := 266) dL_burning_265 rfl rfl rfl ?_
          refine g_iconst (npc := 267) dL_burning_266 rfl ?_
          obtain ⟨Q52, h53, hT⟩ := hT
          refine iv_La_9 (npc := 270) dL_burning_267 rfl rfl (Nat.le_of_ble_eq_true rfl) (by decide) (by decide) h53 (fun r55 s54 e56 => ?_)
          replace hT := hT r55 s54 e56
          refine g_iconst (npc := 271) dL_burning_270 rfl ?_
          obtain ⟨h57, hTt, hTf⟩ := hT
          refine g_icmp_ne (npc := 274) (tgt := 278) dL_burning_271 rfl (by decide) ⟨h57, by decide, by decide⟩ (fun c58 => ?_) (fun c58 => ?_)
          · replace hT := hTt c58
            refine Go.lsub [] rfl ?_
            exact K40 _ hT
          · replace hT := hTf (Decidable.not_not.mp c58)
            refine g_iconst (npc := 275) dL_burning_274 rfl ?_
            refine g_goto (npc := 279) dL_burning_275 (by decide) ?_
            refine Go.lsub [] rfl ?_
            exact K44 _ _ hT
    obtain ⟨h20, hTt, hTf⟩ := hT
    refine g_if_le (npc := 246) (tgt := 250) dL_burning_243 rfl (by decide) h20 (fun c21 => ?_) (fun c21 => ?_)
    · replace hT := hTt c21
      refine g_iconst (npc := 251) dL_burning_250 rfl ?_
      refine Go.lsub [0, 3] rfl ?_
      exact K62 _ hT
    · replace hT := hTf (Int.not_le.mp c21)
      refine g_iconst (npc := 247) dL_burning_246 rfl ?_
      refine g_goto (npc := 251) dL_burning_247 (by decide) ?_
      refine Go.lsub [0, 3] rfl ?_
      exact K62 _ hT
  · replace hT := hTf (Int.not_le.mp c12)
    refine g_aload_n (npc := 24) dL_burning_23 rfl rfl rfl ?_
    refine g_iload (npc := 26) dL_burning_24 rfl rfl ?_
    obtain ⟨Q64, h65, hT⟩ := hT
    refine iv_La_113 (npc := 29) dL_burning_26 rfl rfl (Nat.le_of_ble_eq_true rfl) (by decide) (by decide) h65 (fun r67 s66 e68 => ?_)
    replace hT := hT r67 s66 e68
    refine g_istore (npc := 31) (l' := [(0, .ref 0), (1, iV x1), (2, iV x2), (3, iV x3), (4, iV x4), (5, iV r67)]) dL_burning_29 rfl (by decide) rfl ?_
    refine g_iload_n (npc := 32) dL_burning_31 rfl rfl rfl ?_
    obtain ⟨h69, hTt, hTf⟩ := hT
    refine g_if_eq (npc := 35) (tgt := 44) dL_burning_32 rfl (by decide) h69 (fun c70 => ?_) (fun c70 => ?_)
    · replace hT := hTt c70
      refine g_iconst (npc := 45) dL_burning_44 rfl ?_
      refine g_istore_n (npc := 46) (l' := [(0, .ref 0), (1, iV x1), (2, iV x2), (3, iV 0), (4, iV x4), (5, iV r67)]) dL_burning_45 rfl rfl (by decide) rfl ?_
      refine g_iconst (npc := 47) dL_burning_46 rfl ?_
      refine g_istore (npc := 49) (l' := [(0, .ref 0), (1, iV x1), (2, iV x2), (3, iV 0), (4, iV x4), (5, iV r67), (6, iV 0)]) dL_burning_47 rfl (by decide) rfl ?_
      refine g_iconst (npc := 50) dL_burning_49 rfl ?_
      refine g_istore (npc := 52) (l' := [(0, .ref 0), (1, iV x1), (2, iV x2), (3, iV 0), (4, iV x4), (5, iV r67), (6, iV 0), (7, iV 0)]) dL_burning_50 rfl (by decide) rfl ?_
      refine g_iconst (npc := 53) dL_burning_52 rfl ?_
      refine g_istore (npc := 55) (l' := [(0, .ref 0), (1, iV x1), (2, iV x2), (3, iV 0), (4, iV x4), (5, iV r67), (6, iV 0), (7, iV 0), (8, iV 0)]) dL_burning_53 rfl (by decide) rfl ?_
      exact hT
    · replace hT := hTf c70
      refine g_iload (npc := 37) dL_burning_35 rfl rfl ?_
      obtain ⟨h71, hTt, hTf⟩ := hT
      refine g_if_lt (npc := 40) (tgt := 44) dL_burning_37 rfl (by decide) h71 (fun c72 => ?_) (fun c72 => ?_)
      · replace hT := hTt c72
        refine g_iconst (npc := 45) dL_burning_44 rfl ?_
        refine g_istore_n (npc := 46) (l' := [(0, .ref 0), (1, iV x1), (2, iV x2), (3, iV 0), (4, iV x4), (5, iV r67)]) dL_burning_45 rfl rfl (by decide) rfl ?_
        refine g_iconst (npc := 47) dL_burning_46 rfl ?_
        refine g_istore (npc := 49) (l' := [(0, .ref 0), (1, iV x1), (2, iV x2), (3, iV 0), (4, iV x4), (5, iV r67), (6, iV 0)]) dL_burning_47 rfl (by decide) rfl ?_
        refine g_iconst (npc := 50) dL_burning_49 rfl ?_
        refine g_istore (npc := 52) (l' := [(0, .ref 0), (1, iV x1), (2, iV x2), (3, iV 0), (4, iV x4), (5, iV r67), (6, iV 0), (7, iV 0)]) dL_burning_50 rfl (by decide) rfl ?_
        refine g_iconst (npc := 53) dL_burning_52 rfl ?_
        refine g_istore (npc := 55) (l' := [(0, .ref 0), (1, iV x1), (2, iV x2), (3, iV 0), (4, iV x4), (5, iV r67), (6, iV 0), (7, iV 0), (8, iV 0)]) dL_burning_53 rfl (by decide) rfl ?_
        exact hT
      · replace hT := hTf (Int.not_lt.mp c72)
        refine g_iconst (npc := 41) dL_burning_40 rfl ?_
        refine g_goto (npc := 45) dL_burning_41 (by decide) ?_
        refine g_istore_n (npc := 46) (l' := [(0, .ref 0), (1, iV x1), (2, iV x2), (3, iV 1), (4, iV x4), (5, iV r67)]) dL_burning_45 rfl rfl (by decide) rfl ?_
        refine g_iconst (npc := 47) dL_burning_46 rfl ?_
        refine g_istore (npc := 49) (l' := [(0, .ref 0), (1, iV x1), (2, iV x2), (3, iV 1), (4, iV x4), (5, iV r67), (6, iV 0)]) dL_burning_47 rfl (by decide) rfl ?_
        refine g_iconst (npc := 50) dL_burning_49 rfl ?_
        refine g_istore (npc := 52) (l' := [(0, .ref 0), (1, iV x1), (2, iV x2), (3, iV 1), (4, iV x4), (5, iV r67), (6, iV 0), (7, iV 0)]) dL_burning_50 rfl (by decide) rfl ?_
        refine g_iconst (npc := 53) dL_burning_52 rfl ?_
        refine g_istore (npc := 55) (l' := [(0, .ref 0), (1, iV x1), (2, iV x2), (3, iV 1), (4, iV x4), (5, iV r67), (6, iV 0), (7, iV 0), (8, iV 0)]) dL_burning_53 rfl (by decide) rfl ?_
        exact hT
set_option maxRecDepth 20000 in
theorem b_La_burning_55 {n : Nat} {Q : Int → Sto → Prop} {x1 : Int} {x2 : Int} {x3 : Int} {x4 : Int} {x5 : Int} {x6 : Int} {x7 : Int} {x8 : Int} {s : Sto} (hT : ((-2147483648 ≤ x8 ∧ x8 < 2147483648) ∧ -2147483648 ≤ x1 ∧ x1 < 2147483648) ∧ ((x1 ≤ x8) → ((-2147483648 ≤ x4 ∧ x4 < 2147483648) ∧ -2147483648 ≤ x2 ∧ x2 < 2147483648) ∧ ((¬ x4 = x2) → (-2147483648 ≤ x5 ∧ x5 < 2147483648) ∧ ((0 ≤ x5) → ∃ Q79 : Int → Sto → Prop, K_Cg_chips n x4 s Q79 ∧ ∀ r82 s81, Q79 r82 s81 → ∃ Q84 : Int → Sto → Prop, K_Cg_degree n x4 s81 Q84 ∧ ∀ r87 s86, Q84 r87 s86 → ((-2147483648 ≤ (r82 + x6) ∧ (r82 + x6) < 2147483648) ∧ -2147483648 ≤ r87 ∧ r87 < 2147483648) ∧ (((r82 + x6) < r87) → Q 0 s86) ∧ ((r87 ≤ (r82 + x6)) → (-2147483648 ≤ x5 ∧ x5 < 2147483648) ∧ ((x5 ≤ 1) → H_La_burning_17 n Q x1 x2 x3 (x4 + 1) s86) ∧ ((1 < x5) → ∃ Q93 : Int → Sto → Prop, K_Cg_chips n x4 s86 Q93 ∧ ∀ r96 s95, Q93 r96 s95 → ∃ Q98 : Int → Sto → Prop, K_Cg_degree n x4 s95 Q98 ∧ ∀ r101 s100, Q98 r101 s100 → ((-2147483648 ≤ (r96 + x7) ∧ (r96 + x7) < 2147483648) ∧ -2147483648 ≤ r101 ∧ r101 < 2147483648) ∧ (((r96 + x7) < r101) → H_La_burning_17 n Q x1 x2 x3 (x4 + 1) s100) ∧ ((r101 ≤ (r96 + x7)) → Q 0 s100)))) ∧ ((x5 < 0) → (-2147483648 ≤ x5 ∧ x5 < 2147483648) ∧ ((¬ x5 = (-10007)) → Q 0 s) ∧ ((x5 = (-10007)) → ∃ Q107 : Int → Sto → Prop, K_Cg_chips n x4 s Q107 ∧ ∀ r110 s109, Q107 r110 s109 → ∃ Q112 : Int → Sto → Prop, K_Cg_degree n x4 s109 Q112 ∧ ∀ r115 s114, Q112 r115 s114 → ((-2147483648 ≤ (r110 + x6) ∧ (r110 + x6) < 2147483648) ∧ -2147483648 ≤ r115 ∧ r115 < 2147483648) ∧ (((r110 + x6) < r115) → H_La_burning_17 n Q x1 x2 x3 (x4 + 1) s114) ∧ ((r115 ≤ (r110 + x6)) → Q 0 s114)))) ∧ ((x4 = x2) → (-2147483648 ≤ x5 ∧ x5 < 2147483648) ∧ ((x5 = 0) → H_La_burning_17 n Q x1 x2 x3 (x4 + 1) s) ∧ ((¬ x5 = 0) → Q 0 s))) ∧ ((x8 < x1) → ∃ Q121 : Int → Sto → Prop, K_Cg_burnt n x8 s Q121 ∧ ∀ r124 s123, Q121 r124 s123 → ∃ J130 : Prop, ∃ J137 : Int → Sto → Prop, (J130 → J137 0 s123) ∧ (∀ v135 s136, J137 v135 s136 → (-2147483648 ≤ r124 ∧ r124 < 2147483648) ∧ ((r124 < 0) → H_La_burning_55 n Q x1 x2 x3 x4 x5 (x6 + v135) (x7 + 0) (x8 + 1) s136) ∧ ((0 ≤ r124) → ((-2147483648 ≤ r124 ∧ r124 < 2147483648) ∧ -2147483648 ≤ (x5 - 1) ∧ (x5 - 1) < 2147483648) ∧ (((x5 - 1) ≤ r124) → H_La_burning_55 n Q x1 x2 x3 x4 x5 (x6 + v135) (x7 + 0) (x8 + 1) s136) ∧ ((r124 < (x5 - 1)) → ∃ Q146 : Int → Sto → Prop, K_La_joins n x4 x8 s136 Q146 ∧ ∀ r149 s148, Q146 r149 s148 → H_La_burning_55 n Q x1 x2 x3 x4 x5 (x6 + v135) (x7 + r149) (x8 + 1) s148))) ∧ (-2147483648 ≤ r124 ∧ r124 < 2147483648) ∧ ((r124 < 0) → J130) ∧ ((0 ≤ r124) → ∃ J153 : Prop, (J153 → ∃ Q156 : Int → Sto → Prop, K_La_joins n x4 x8 s123 Q156 ∧ ∀ r159 s158, Q156 r159 s158 → J137 r159 s158) ∧ (-2147483648 ≤ x5 ∧ x5 < 2147483648) ∧ ((x5 < 0) → J153) ∧ ((0 ≤ x5) → ((-2147483648 ≤ r124 ∧ r124 < 2147483648) ∧ -2147483648 ≤ x5 ∧ x5 < 2147483648) ∧ ((x5 ≤ r124) → J130) ∧ ((r124 < x5) → J153))))) : H_La_burning_55 n Q x1 x2 x3 x4 x5 x6 x7 x8 s := by
  refine g_iload (npc := 57) dL_burning_55 rfl rfl ?_
  refine g_iload_n (npc := 58) dL_burning_57 rfl rfl rfl ?_
  obtain ⟨h73, hTt, hTf⟩ := hT
  refine g_icmp_ge (npc := 61) (tgt := 140) dL_burning_58 rfl (by decide) h73 (fun c74 => ?_) (fun c74 => ?_)
  · replace hT := hTt c74
    refine g_iload (npc := 142) dL_burning_140 rfl rfl ?_
    refine g_iload_n (npc := 143) dL_burning_142 rfl rfl rfl ?_
    obtain ⟨h75, hTt, hTf⟩ := hT
    refine g_icmp_ne (npc := 146) (tgt := 153) dL_burning_143 rfl (by decide) h75 (fun c76 => ?_) (fun c76 => ?_)
    · replace hT := hTt c76
      refine g_iload (npc := 155) dL_burning_153 rfl rfl ?_
      obtain ⟨h77, hTt, hTf⟩ := hT
      refine g_if_ge (npc := 158) (tgt := 187) dL_burning_155 rfl (by decide) h77 (fun c78 => ?_) (fun c78 => ?_)
      · replace hT := hTt c78
        refine g_aload_n (npc := 188) dL_burning_187 rfl rfl rfl ?_
        refine g_iload (npc := 190) dL_burning_188 rfl rfl ?_
        obtain ⟨Q79, h80, hT⟩ := hT
        refine iv_La_19 (npc := 193) dL_burning_190 rfl rfl (Nat.le_of_ble_eq_true rfl) (by decide) (by decide) h80 (fun r82 s81 e83 => ?_)
        replace hT := hT r82 s81 e83
        refine g_iload (npc := 195) dL_burning_193 rfl rfl ?_
        refine g_iadd (npc := 196) dL_burning_195 rfl ?_
        refine g_aload_n (npc := 197) dL_burning_196 rfl rfl rfl ?_
        refine g_iload (npc := 199) dL_burning_197 rfl rfl ?_
        obtain ⟨Q84, h85, hT⟩ := hT
        refine iv_La_67 (npc := 202) dL_burning_199 rfl rfl (Nat.le_of_ble_eq_true rfl) (by decide) (by decide) h85 (fun r87 s86 e88 => ?_)
        replace hT := hT r87 s86 e88
        obtain ⟨h89, hTt, hTf⟩ := hT
        refine g_icmp_lt (npc := 205) (tgt := 229) dL_burning_202 rfl (by decide) h89 (fun c90 => ?_) (fun c90 => ?_)
        · replace hT := hTt c90
          refine g_iconst (npc := 230) dL_burning_229 rfl ?_
          exact g_iret dL_burning_230 rfl (by decide) (by decide) ⟨_, rfl, hT⟩
        · replace hT := hTf (Int.not_lt.mp c90)
          refine g_iload (npc := 207) dL_burning_205 rfl rfl ?_
          refine g_iconst (npc := 208) dL_burning_207 rfl ?_
          obtain ⟨h91, hTt, hTf⟩ := hT
          refine g_icmp_le (npc := 211) (tgt := 231) dL_burning_208 rfl (by decide) ⟨h91, by decide, by decide⟩ (fun c92 => ?_) (fun c92 => ?_)
          · replace hT := hTt c92
            refine g_iinc (npc := 234) (y := (x4 + 1)) (l' := [(0, .ref 0), (1, iV x1), (2, iV x2), (3, iV x3), (4, iV (x4 + 1)), (5, iV x5), (6, iV x6), (7, iV x7), (8, iV x8)]) dL_burning_231 rfl (by decide) rfl (by omega) rfl ?_
            refine g_goto (npc := 17) dL_burning_234 (by decide) ?_
            refine Go.lsub [0, 1, 2, 3, 4] rfl ?_
            exact hT
          · replace hT := hTf (Int.not_le.mp c92)
            refine g_aload_n (npc := 212) dL_burning_211 rfl rfl rfl ?_
            refine g_iload (npc := 214) dL_burning_212 rfl rfl ?_
            obtain ⟨Q93, h94, hT⟩ := hT
            refine iv_La_19 (npc := 217) dL_burning_214 rfl rfl (Nat.le_of_ble_eq_true rfl) (by decide) (by decide) h94 (fun r96 s95 e97 => ?_)
            replace hT := hT r96 s95 e97
            refine g_iload (npc := 219) dL_burning_217 rfl rfl ?_
            refine g_iadd (npc := 220) dL_burning_219 rfl ?_
            refine g_aload_n (npc := 221) dL_burning_220 rfl rfl rfl ?_
            refine g_iload (npc := 223) dL_burning_221 rfl rfl ?_
            obtain ⟨Q98, h99, hT⟩ := hT
            refine iv_La_67 (npc := 226) dL_burning_223 rfl rfl (Nat.le_of_ble_eq_true rfl) (by decide) (by decide) h99 (fun r101 s100 e102 => ?_)
            replace hT := hT r101 s100 e102
            obtain ⟨h103, hTt, hTf⟩ := hT
            refine g_icmp_lt (npc := 229) (tgt := 231) dL_burning_226 rfl (by decide) h103 (fun c104 => ?_) (fun c104 => ?_)
            · replace hT := hTt c104
              refine g_iinc (npc := 234) (y := (x4 + 1)) (l' := [(0, .ref 0), (1, iV x1), (2, iV x2), (3, iV x3), (4, iV (x4 + 1)), (5, iV x5), (6, iV x6), (7, iV x7), (8, iV x8)]) dL_burning_231 rfl (by decide) rfl (by omega) rfl ?_
              refine g_goto (npc := 17) dL_burning_234 (by decide) ?_
              refine Go.lsub [0, 1, 2, 3, 4] rfl ?_
              exact hT
            · replace hT := hTf (Int.not_lt.mp c104)
              refine g_iconst (npc := 230) dL_burning_229 rfl ?_
              exact g_iret dL_burning_230 rfl (by decide) (by decide) ⟨_, rfl, hT⟩
      · replace hT := hTf (Int.not_le.mp c78)
        refine g_iload (npc := 160) dL_burning_158 rfl rfl ?_
        refine g_sipush (npc := 163) (x := (-10007)) dL_burning_160 rfl (by decide) ?_
        obtain ⟨h105, hTt, hTf⟩ := hT
        refine g_icmp_ne (npc := 166) (tgt := 229) dL_burning_163 rfl (by decide) ⟨h105, by decide, by decide⟩ (fun c106 => ?_) (fun c106 => ?_)
        · replace hT := hTt c106
          refine g_iconst (npc := 230) dL_burning_229 rfl ?_
          exact g_iret dL_burning_230 rfl (by decide) (by decide) ⟨_, rfl, hT⟩
        · replace hT := hTf (Decidable.not_not.mp c106)
          refine g_aload_n (npc := 167) dL_burning_166 rfl rfl rfl ?_
          refine g_iload (npc := 169) dL_burning_167 rfl rfl ?_
          obtain ⟨Q107, h108, hT⟩ := hT
          refine iv_La_19 (npc := 172) dL_burning_169 rfl rfl (Nat.le_of_ble_eq_true rfl) (by decide) (by decide) h108 (fun r110 s109 e111 => ?_)
          replace hT := hT r110 s109 e111
          refine g_iload (npc := 174) dL_burning_172 rfl rfl ?_
          refine g_iadd (npc := 175) dL_burning_174 rfl ?_
          refine g_aload_n (npc := 176) dL_burning_175 rfl rfl rfl ?_
          refine g_iload (npc := 178) dL_burning_176 rfl rfl ?_
          obtain ⟨Q112, h113, hT⟩ := hT
          refine iv_La_67 (npc := 181) dL_burning_178 rfl rfl (Nat.le_of_ble_eq_true rfl) (by decide) (by decide) h113 (fun r115 s114 e116 => ?_)
          replace hT := hT r115 s114 e116
          obtain ⟨h117, hTt, hTf⟩ := hT
          refine g_icmp_lt (npc := 184) (tgt := 231) dL_burning_181 rfl (by decide) h117 (fun c118 => ?_) (fun c118 => ?_)
          · replace hT := hTt c118
            refine g_iinc (npc := 234) (y := (x4 + 1)) (l' := [(0, .ref 0), (1, iV x1), (2, iV x2), (3, iV x3), (4, iV (x4 + 1)), (5, iV x5), (6, iV x6), (7, iV x7), (8, iV x8)]) dL_burning_231 rfl (by decide) rfl (by omega) rfl ?_
            refine g_goto (npc := 17) dL_burning_234 (by decide) ?_
            refine Go.lsub [0, 1, 2, 3, 4] rfl ?_
            exact hT
          · replace hT := hTf (Int.not_lt.mp c118)
            refine g_goto (npc := 229) dL_burning_184 (by decide) ?_
            refine g_iconst (npc := 230) dL_burning_229 rfl ?_
            exact g_iret dL_burning_230 rfl (by decide) (by decide) ⟨_, rfl, hT⟩
    · replace hT := hTf (Decidable.not_not.mp c76)
      refine g_iload (npc := 148) dL_burning_146 rfl rfl ?_
      obtain ⟨h119, hTt, hTf⟩ := hT
      refine g_if_eq (npc := 151) (tgt := 231) dL_burning_148 rfl (by decide) h119 (fun c120 => ?_) (fun c120 => ?_)
      · replace hT := hTt c120
        refine g_iinc (npc := 234) (y := (x4 + 1)) (l' := [(0, .ref 0), (1, iV x1), (2, iV x2), (3, iV x3), (4, iV (x4 + 1)), (5, iV x5), (6, iV x6), (7, iV x7), (8, iV x8)]) dL_burning_231 rfl (by decide) rfl (by omega) rfl ?_
        refine g_goto (npc := 17) dL_burning_234 (by decide) ?_
        refine Go.lsub [0, 1, 2, 3, 4] rfl ?_
        exact hT
      · replace hT := hTf c120
        refine g_iconst (npc := 152) dL_burning_151 rfl ?_
        exact g_iret dL_burning_152 rfl (by decide) (by decide) ⟨_, rfl, hT⟩
  · replace hT := hTf (Int.not_le.mp c74)
    refine g_aload_n (npc := 62) dL_burning_61 rfl rfl rfl ?_
    refine g_iload (npc := 64) dL_burning_62 rfl rfl ?_
    obtain ⟨Q121, h122, hT⟩ := hT
    refine iv_La_113 (npc := 67) dL_burning_64 rfl rfl (Nat.le_of_ble_eq_true rfl) (by decide) (by decide) h122 (fun r124 s123 e125 => ?_)
    replace hT := hT r124 s123 e125
    refine g_istore (npc := 69) (l' := [(0, .ref 0), (1, iV x1), (2, iV x2), (3, iV x3), (4, iV x4), (5, iV x5), (6, iV x6), (7, iV x7), (8, iV x8), (9, iV r124)]) dL_burning_67 rfl (by decide) rfl ?_
    refine g_iload (npc := 71) dL_burning_69 rfl rfl ?_
    refine g_iload (npc := 73) dL_burning_71 rfl rfl ?_
    obtain ⟨J130, hT⟩ := hT
    obtain ⟨J137, hT⟩ := hT
    obtain ⟨hj140, hT⟩ := hT
    obtain ⟨hj151, hT⟩ := hT
    have K152 : ∀ (v135 : Int) (s136 : Sto), J137 v135 s136 → Go (SL n) M_La_burning (fI Q) 0 0 100 [(0, .ref 0), (1, iV x1), (2, iV x2), (3, iV x3), (4, iV x4), (5, iV x5), (7, iV x7), (8, iV x8), (9, iV r124)] [iV v135, iV x6] s136 := by
      intro v135 s136 q166
      replace hT := hj151 v135 s136 q166
      refine g_iadd (npc := 101) dL_burning_100 rfl ?_
      refine g_istore (npc := 103) (l' := [(0, .ref 0), (1, iV x1), (2, iV x2), (3, iV x3), (4, iV x4), (5, iV x5), (6, iV (x6 + v135)), (7, iV x7), (8, iV x8), (9, iV r124)]) dL_burning_101 rfl (by decide) rfl ?_
      refine g_iload (npc := 105) dL_burning_103 rfl rfl ?_
      refine g_iload (npc := 107) dL_burning_105 rfl rfl ?_
      obtain ⟨h142, hTt, hTf⟩ := hT
      refine g_if_lt (npc := 110) (tgt := 130) dL_burning_107 rfl (by decide) h142 (fun c143 => ?_) (fun c143 => ?_)
      · replace hT := hTt c143
        refine g_iconst (npc := 131) dL_burning_130 rfl ?_
        refine g_iadd (npc := 132) dL_burning_131 rfl ?_
        refine g_istore (npc := 134) (l' := [(0, .ref 0), (1, iV x1), (2, iV x2), (3, iV x3), (4, iV x4), (5, iV x5), (6, iV (x6 + v135)), (7, iV (x7 + 0)), (8, iV x8), (9, iV r124)]) dL_burning_132 rfl (by decide) rfl ?_
        refine g_iinc (npc := 137) (y := (x8 + 1)) (l' := [(0, .ref 0), (1, iV x1), (2, iV x2), (3, iV x3), (4, iV x4), (5, iV x5), (6, iV (x6 + v135)), (7, iV (x7 + 0)), (8, iV (x8 + 1)), (9, iV r124)]) dL_burning_134 rfl (by decide) rfl (by omega) rfl ?_
        refine g_goto (npc := 55) dL_burning_137 (by decide) ?_
        refine Go.lsub [0, 1, 2, 3, 4, 5, 6, 7, 8] rfl ?_
        exact hT
      · replace hT := hTf (Int.not_lt.mp c143)
        refine g_iload (npc := 112) dL_burning_110 rfl rfl ?_
        refine g_iload (npc := 114) dL_burning_112 rfl rfl ?_
        refine g_iconst (npc := 115) dL_burning_114 rfl ?_
        refine g_isub (npc := 116) dL_burning_115 rfl ?_
        obtain ⟨h144, hTt, hTf⟩ := hT
        refine g_icmp_ge (npc := 119) (tgt := 130) dL_burning_116 rfl (by decide) h144 (fun c145 => ?_) (fun c145 => ?_)
        · replace hT := hTt c145
          refine g_iconst (npc := 131) dL_burning_130 rfl ?_
          refine g_iadd (npc := 132) dL_burning_131 rfl ?_
          refine g_istore (npc := 134) (l' := [(0, .ref 0), (1, iV x1), (2, iV x2), (3, iV x3), (4, iV x4), (5, iV x5), (6, iV (x6 + v135)), (7, iV (x7 + 0)), (8, iV x8), (9, iV r124)]) dL_burning_132 rfl (by decide) rfl ?_
          refine g_iinc (npc := 137) (y := (x8 + 1)) (l' := [(0, .ref 0), (1, iV x1), (2, iV x2), (3, iV x3), (4, iV x4), (5, iV x5), (6, iV (x6 + v135)), (7, iV (x7 + 0)), (8, iV (x8 + 1)), (9, iV r124)]) dL_burning_134 rfl (by decide) rfl (by omega) rfl ?_
          refine g_goto (npc := 55) dL_burning_137 (by decide) ?_
          refine Go.lsub [0, 1, 2, 3, 4, 5, 6, 7, 8] rfl ?_
          exact hT
        · replace hT := hTf (Int.not_le.mp c145)
          refine g_aload_n (npc := 120) dL_burning_119 rfl rfl rfl ?_
          refine g_iload (npc := 122) dL_burning_120 rfl rfl ?_
          refine g_iload (npc := 124) dL_burning_122 rfl rfl ?_
          obtain ⟨Q146, h147, hT⟩ := hT
          refine iv_La_70 (npc := 127) dL_burning_124 rfl rfl (Nat.le_of_ble_eq_true rfl) (by decide) (by decide) h147 (fun r149 s148 e150 => ?_)
          replace hT := hT r149 s148 e150
          refine g_goto (npc := 131) dL_burning_127 (by decide) ?_
          refine g_iadd (npc := 132) dL_burning_131 rfl ?_
          refine g_istore (npc := 134) (l' := [(0, .ref 0), (1, iV x1), (2, iV x2), (3, iV x3), (4, iV x4), (5, iV x5), (6, iV (x6 + v135)), (7, iV (x7 + r149)), (8, iV x8), (9, iV r124)]) dL_burning_132 rfl (by decide) rfl ?_
          refine g_iinc (npc := 137) (y := (x8 + 1)) (l' := [(0, .ref 0), (1, iV x1), (2, iV x2), (3, iV x3), (4, iV x4), (5, iV x5), (6, iV (x6 + v135)), (7, iV (x7 + r149)), (8, iV (x8 + 1)), (9, iV r124)]) dL_burning_134 rfl (by decide) rfl (by omega) rfl ?_
          refine g_goto (npc := 55) dL_burning_137 (by decide) ?_
          refine Go.lsub [0, 1, 2, 3, 4, 5, 6, 7, 8] rfl ?_
          exact hT
    have K141 : J130 → Go (SL n) M_La_burning (fI Q) 0 0 99 [(0, .ref 0), (1, iV x1), (2, iV x2), (3, iV x3), (4, iV x4), (5, iV x5), (7, iV x7), (8, iV x8), (9, iV r124)] [iV x6] s123 := by
      intro  q167
      replace hT := hj140  q167
      refine g_iconst (npc := 100) dL_burning_99 rfl ?_
      exact K152 _ _ hT
    obtain ⟨h138, hTt, hTf⟩ := hT
    refine g_if_lt (npc := 76) (tgt := 99) dL_burning_73 rfl (by decide) h138 (fun c139 => ?_) (fun c139 => ?_)
    · replace hT := hTt c139
      refine Go.lsub [0, 1, 2, 3, 4, 5, 7, 8, 9] rfl ?_
      exact K141  hT
    · replace hT := hTf (Int.not_lt.mp c139)
      refine g_iload (npc := 78) dL_burning_76 rfl rfl ?_
      obtain ⟨J153, hT⟩ := hT
      obtain ⟨hj161, hT⟩ := hT
      have K162 : J153 → Go (SL n) M_La_burning (fI Q) 0 0 88 [(0, .ref 0), (1, iV x1), (2, iV x2), (3, iV x3), (4, iV x4), (5, iV x5), (7, iV x7), (8, iV x8), (9, iV r124)] [iV x6] s123 := by
        intro  q165
        replace hT := hj161  q165
        refine g_aload_n (npc := 89) dL_burning_88 rfl rfl rfl ?_
        refine g_iload (npc := 91) dL_burning_89 rfl rfl ?_
        refine g_iload (npc := 93) dL_burning_91 rfl rfl ?_
        obtain ⟨Q156, h157, hT⟩ := hT
        refine iv_La_70 (npc := 96) dL_burning_93 rfl rfl (Nat.le_of_ble_eq_true rfl) (by decide) (by decide) h157 (fun r159 s158 e160 => ?_)
        replace hT := hT r159 s158 e160
        refine g_goto (npc := 100) dL_burning_96 (by decide) ?_
        exact K152 _ _ hT
      obtain ⟨h154, hTt, hTf⟩ := hT
      refine g_if_lt (npc := 81) (tgt := 88) dL_burning_78 rfl (by decide) h154 (fun c155 => ?_) (fun c155 => ?_)
      · replace hT := hTt c155
        refine Go.lsub [0, 1, 2, 3, 4, 5, 7, 8, 9] rfl ?_
        exact K162  hT
      · replace hT := hTf (Int.not_lt.mp c155)
        refine g_iload (npc := 83) dL_burning_81 rfl rfl ?_
        refine g_iload (npc := 85) dL_burning_83 rfl rfl ?_
        obtain ⟨h163, hTt, hTf⟩ := hT
        refine g_icmp_ge (npc := 88) (tgt := 99) dL_burning_85 rfl (by decide) h163 (fun c164 => ?_) (fun c164 => ?_)
        · replace hT := hTt c164
          refine Go.lsub [0, 1, 2, 3, 4, 5, 7, 8, 9] rfl ?_
          exact K141  hT
        · replace hT := hTf (Int.not_le.mp c164)
          refine Go.lsub [0, 1, 2, 3, 4, 5, 7, 8, 9] rfl ?_
          exact K162  hT
set_option maxRecDepth 20000 in
theorem e_La_burning {n : Nat} {s : Sto} {Q : Int → Sto → Prop} (hT : ∃ Q1 : Int → Sto → Prop, K_Cg_value n 0 s Q1 ∧ ∀ r4 s3, Q1 r4 s3 → ∃ Q6 : Int → Sto → Prop, K_Cg_value n 2 s3 Q6 ∧ ∀ r9 s8, Q6 r9 s8 → H_La_burning_17 n Q r4 r9 1 0 s8) : K_La_burning n s Q := by
  refine Sp.body (by decide +kernel) (Nat.le_of_ble_eq_true rfl) ?_
  show Go (SL n) M_La_burning (fI Q) 0 0 0 [(0, .ref 0)] [] s
  refine g_aload_n (npc := 1) dL_burning_0 rfl rfl rfl ?_
  refine g_iconst (npc := 2) dL_burning_1 rfl ?_
  obtain ⟨Q1, h2, hT⟩ := hT
  refine iv_La_9 (npc := 5) dL_burning_2 rfl rfl (Nat.le_of_ble_eq_true rfl) (by decide) (by decide) h2 (fun r4 s3 e5 => ?_)
  replace hT := hT r4 s3 e5
  refine g_istore_n (npc := 6) (l' := [(0, .ref 0), (1, iV r4)]) dL_burning_5 rfl rfl (by decide) rfl ?_
  refine g_aload_n (npc := 7) dL_burning_6 rfl rfl rfl ?_
  refine g_iconst (npc := 8) dL_burning_7 rfl ?_
  obtain ⟨Q6, h7, hT⟩ := hT
  refine iv_La_9 (npc := 11) dL_burning_8 rfl rfl (Nat.le_of_ble_eq_true rfl) (by decide) (by decide) h7 (fun r9 s8 e10 => ?_)
  replace hT := hT r9 s8 e10
  refine g_istore_n (npc := 12) (l' := [(0, .ref 0), (1, iV r4), (2, iV r9)]) dL_burning_11 rfl rfl (by decide) rfl ?_
  refine g_iconst (npc := 13) dL_burning_12 rfl ?_
  refine g_istore_n (npc := 14) (l' := [(0, .ref 0), (1, iV r4), (2, iV r9), (3, iV 1)]) dL_burning_13 rfl rfl (by decide) rfl ?_
  refine g_iconst (npc := 15) dL_burning_14 rfl ?_
  refine g_istore (npc := 17) (l' := [(0, .ref 0), (1, iV r4), (2, iV r9), (3, iV 1), (4, iV 0)]) dL_burning_15 rfl (by decide) rfl ?_
  exact hT
set_option maxRecDepth 20000 in
theorem e_La_errors {n : Nat} {s : Sto} {Q : Int → Sto → Prop} (hT : ∃ Q1 : Int → Sto → Prop, K_Cg_value n 0 s Q1 ∧ ∀ r4 s3, Q1 r4 s3 → ∃ Q6 : Int → Sto → Prop, K_Cg_value n 2 s3 Q6 ∧ ∀ r9 s8, Q6 r9 s8 → ∃ Q11 : Int → Sto → Prop, K_Cg_reset n 1 s8 Q11 ∧ ∀ r14 s13, Q11 r14 s13 → ∃ J47 : Sto → Prop, ∃ J80 : Int → Sto → Prop, (∀ s46, J47 s46 → J80 0 s46) ∧ (∀ v78 s79, J80 v78 s79 → (-2147483648 ≤ v78 ∧ v78 < 2147483648) ∧ ((v78 = 0) → Q 0 s79) ∧ ((¬ v78 = 0) → ∃ Q87 : Int → Sto → Prop, K_Cg_keep n 3 s79 Q87 ∧ ∀ r90 s89, Q87 r90 s89 → (-2147483648 ≤ r90 ∧ r90 < 2147483648) ∧ ((¬ r90 = (-10001)) → Q 0 s89) ∧ ((r90 = (-10001)) → ∃ Q94 : Int → Sto → Prop, K_Cg_load n (-1) s89 Q94 ∧ ∀ r97 s96, Q94 r97 s96 → (-2147483648 ≤ r97 ∧ r97 < 2147483648) ∧ ((¬ r97 = (-10001)) → Q 0 s96) ∧ ((r97 = (-10001)) → ∃ Q101 : Int → Sto → Prop, K_Cg_add n 3 s96 Q101 ∧ ∀ r104 s103, Q101 r104 s103 → (-2147483648 ≤ r104 ∧ r104 < 2147483648) ∧ ((¬ r104 = (-10001)) → Q 0 s103) ∧ ((r104 = (-10001)) → ∃ Q108 : Int → Sto → Prop, K_Cg_isSameClass n 3 s103 Q108 ∧ ∀ r111 s110, Q108 r111 s110 → (-2147483648 ≤ r111 ∧ r111 < 2147483648) ∧ ((¬ r111 = (-10001)) → Q 0 s110) ∧ ((r111 = (-10001)) → ∃ Q115 : Int → Sto → Prop, K_Cg_load n 2 s110 Q115 ∧ ∀ r118 s117, Q115 r118 s117 → (-2147483648 ≤ r118 ∧ r118 < 2147483648) ∧ ((¬ r118 = (-10004)) → Q 0 s117) ∧ ((r118 = (-10004)) → ∃ Q122 : Int → Sto → Prop, K_Cg_add n 2 s117 Q122 ∧ ∀ r125 s124, Q122 r125 s124 → (-2147483648 ≤ r125 ∧ r125 < 2147483648) ∧ ((¬ r125 = (-10004)) → Q 0 s124) ∧ ((r125 = (-10004)) → ∃ Q129 : Int → Sto → Prop, K_Cg_isSameClass n 2 s124 Q129 ∧ ∀ r132 s131, Q129 r132 s131 → (-2147483648 ≤ r132 ∧ r132 < 2147483648) ∧ ((¬ r132 = (-10004)) → Q 0 s131) ∧ ((r132 = (-10004)) → ∃ Q136 : Int → Sto → Prop, K_Cg_identity n r9 s131 Q136 ∧ ∀ r139 s138, Q136 r139 s138 → (-2147483648 ≤ r139 ∧ r139 < 2147483648) ∧ ((¬ r139 = (-10001)) → Q 0 s138) ∧ ((r139 = (-10001)) → ∃ Q143 : Int → Sto → Prop, K_Cg_takeTree n (-1) s138 Q143 ∧ ∀ r146 s145, Q143 r146 s145 → (-2147483648 ≤ r146 ∧ r146 < 2147483648) ∧ ((¬ r146 = (-10002)) → Q 0 s145) ∧ ((r146 = (-10002)) → ∃ Q150 : Int → Sto → Prop, K_Cg_takeTree n 0 s145 Q150 ∧ ∀ r153 s152, Q150 r153 s152 → (-2147483648 ≤ r153 ∧ r153 < 2147483648) ∧ ((¬ r153 = (-10002)) → Q 0 s152) ∧ ((r153 = (-10002)) → ∃ J158 : Int → Prop, (∀ v157, J158 v157 → ∃ Q161 : Int → Sto → Prop, K_Cg_setChips n v157 1001 s152 Q161 ∧ ∀ r164 s163, Q161 r164 s163 → (-2147483648 ≤ r164 ∧ r164 < 2147483648) ∧ ((¬ r164 = (-10002)) → Q 0 s163) ∧ ((r164 = (-10002)) → Q 1 s163)) ∧ (-2147483648 ≤ r9 ∧ r9 < 2147483648) ∧ ((¬ r9 = 0) → J158 0) ∧ ((r9 = 0) → J158 1))))))))))))) ∧ (-2147483648 ≤ r14 ∧ r14 < 2147483648) ∧ ((¬ r14 = (-10002)) → J47 s13) ∧ ((r14 = (-10002)) → ∃ Q173 : Int → Sto → Prop, K_Cg_reset n 9 s13 Q173 ∧ ∀ r176 s175, Q173 r176 s175 → (-2147483648 ≤ r176 ∧ r176 < 2147483648) ∧ ((¬ r176 = (-10002)) → J47 s175) ∧ ((r176 = (-10002)) → ∃ Q180 : Int → Sto → Prop, K_Cg_addEdge n 0 r4 s175 Q180 ∧ ∀ r183 s182, Q180 r183 s182 → (-2147483648 ≤ r183 ∧ r183 < 2147483648) ∧ ((¬ r183 = (-10001)) → J47 s182) ∧ ((r183 = (-10001)) → ∃ Q187 : Int → Sto → Prop, K_Cg_addEdge n 0 0 s182 Q187 ∧ ∀ r190 s189, Q187 r190 s189 → (-2147483648 ≤ r190 ∧ r190 < 2147483648) ∧ ((¬ r190 = (-10002)) → J47 s189) ∧ ((r190 = (-10002)) → ∃ Q194 : Int → Sto → Prop, K_Cg_value n 1 s189 Q194 ∧ ∀ r197 s196, Q194 r197 s196 → ∃ Q199 : Int → Sto → Prop, K_Cg_removeEdge n r197 s196 Q199 ∧ ∀ r202 s201, Q199 r202 s201 → (-2147483648 ≤ r202 ∧ r202 < 2147483648) ∧ ((¬ r202 = (-10001)) → J47 s201) ∧ ((r202 = (-10001)) → ∃ Q206 : Int → Sto → Prop, K_Cg_setSink n r4 s201 Q206 ∧ ∀ r209 s208, Q206 r209 s208 → (-2147483648 ≤ r209 ∧ r209 < 2147483648) ∧ ((¬ r209 = (-10001)) → J47 s208) ∧ ((r209 = (-10001)) → ∃ Q213 : Int → Sto → Prop, K_Cg_value n 7 s208 Q213 ∧ ∀ r216 s215, Q213 r216 s215 → (-2147483648 ≤ r216 ∧ r216 < 2147483648) ∧ ((¬ r216 = (-10002)) → J47 s215) ∧ ((r216 = (-10002)) → ∃ Q220 : Int → Sto → Prop, K_Cg_degree n r4 s215 Q220 ∧ ∀ r223 s222, Q220 r223 s222 → (-2147483648 ≤ r223 ∧ r223 < 2147483648) ∧ ((¬ r223 = (-10001)) → J47 s222) ∧ ((r223 = (-10001)) → ∃ Q227 : Int → Sto → Prop, K_Cg_edge n (-1) 1 s222 Q227 ∧ ∀ r230 s229, Q227 r230 s229 → (-2147483648 ≤ r230 ∧ r230 < 2147483648) ∧ ((¬ r230 = (-10001)) → J47 s229) ∧ ((r230 = (-10001)) → ∃ Q234 : Int → Sto → Prop, K_Cg_setChips n r9 0 s229 Q234 ∧ ∀ r237 s236, Q234 r237 s236 → (-2147483648 ≤ r237 ∧ r237 < 2147483648) ∧ ((¬ r237 = (-10001)) → J47 s236) ∧ ((r237 = (-10001)) → ∃ Q241 : Int → Sto → Prop, K_Cg_setChips n r4 0 s236 Q241 ∧ ∀ r244 s243, Q241 r244 s243 → (-2147483648 ≤ r244 ∧ r244 < 2147483648) ∧ ((¬ r244 = (-10001)) → J47 s243) ∧ ((r244 = (-10001)) → ∃ Q248 : Int → Sto → Prop, K_Cg_chips n r9 s243 Q248 ∧ ∀ r251 s250, Q248 r251 s250 → (-2147483648 ≤ r251 ∧ r251 < 2147483648) ∧ ((¬ r251 = (-10001)) → J47 s250) ∧ ((r251 = (-10001)) → ∃ Q255 : Int → Sto → Prop, K_Cg_fire n r9 s250 Q255 ∧ ∀ r258 s257, Q255 r258 s257 → (-2147483648 ≤ r258 ∧ r258 < 2147483648) ∧ ((¬ r258 = (-10001)) → J47 s257) ∧ ((r258 = (-10001)) → ∃ Q262 : Int → Sto → Prop, K_Cg_firings n r9 s257 Q262 ∧ ∀ r265 s264, Q262 r265 s264 → (-2147483648 ≤ r265 ∧ r265 < 2147483648) ∧ ((¬ r265 = (-10001)) → J47 s264) ∧ ((r265 = (-10001)) → ∃ Q269 : Int → Sto → Prop, K_Cg_burnt n r4 s264 Q269 ∧ ∀ r272 s271, Q269 r272 s271 → (-2147483648 ≤ r272 ∧ r272 < 2147483648) ∧ ((¬ r272 = (-10001)) → J47 s271) ∧ ((r272 = (-10001)) → J80 1 s271)))))))))))))))) : K_La_errors n s Q := by
  refine Sp.body (by decide +kernel) (Nat.le_of_ble_eq_true rfl) ?_
  show Go (SL n) M_La_errors (fI Q) 0 0 0 [(0, .ref 0)] [] s
  refine g_aload_n (npc := 1) dL_errors_0 rfl rfl rfl ?_
  refine g_iconst (npc := 2) dL_errors_1 rfl ?_
  obtain ⟨Q1, h2, hT⟩ := hT
  refine iv_La_9 (npc := 5) dL_errors_2 rfl rfl (Nat.le_of_ble_eq_true rfl) (by decide) (by decide) h2 (fun r4 s3 e5 => ?_)
  replace hT := hT r4 s3 e5
  refine g_istore_n (npc := 6) (l' := [(0, .ref 0), (1, iV r4)]) dL_errors_5 rfl rfl (by decide) rfl ?_
  refine g_aload_n (npc := 7) dL_errors_6 rfl rfl rfl ?_
  refine g_iconst (npc := 8) dL_errors_7 rfl ?_
  obtain ⟨Q6, h7, hT⟩ := hT
  refine iv_La_9 (npc := 11) dL_errors_8 rfl rfl (Nat.le_of_ble_eq_true rfl) (by decide) (by decide) h7 (fun r9 s8 e10 => ?_)
  replace hT := hT r9 s8 e10
  refine g_istore_n (npc := 12) (l' := [(0, .ref 0), (1, iV r4), (2, iV r9)]) dL_errors_11 rfl rfl (by decide) rfl ?_
  refine g_sipush (npc := 15) (x := (-10001)) dL_errors_12 rfl (by decide) ?_
  refine g_istore_n (npc := 16) (l' := [(0, .ref 0), (1, iV r4), (2, iV r9), (3, iV (-10001))]) dL_errors_15 rfl rfl (by decide) rfl ?_
  refine g_sipush (npc := 19) (x := (-10002)) dL_errors_16 rfl (by decide) ?_
  refine g_istore (npc := 21) (l' := [(0, .ref 0), (1, iV r4), (2, iV r9), (3, iV (-10001)), (4, iV (-10002))]) dL_errors_19 rfl (by decide) rfl ?_
  refine g_aload_n (npc := 22) dL_errors_21 rfl rfl rfl ?_
  refine g_iconst (npc := 23) dL_errors_22 rfl ?_
  obtain ⟨Q11, h12, hT⟩ := hT
  refine iv_La_116 (npc := 26) dL_errors_23 rfl rfl (Nat.le_of_ble_eq_true rfl) (by decide) (by decide) h12 (fun r14 s13 e15 => ?_)
  replace hT := hT r14 s13 e15
  refine g_iload (npc := 28) dL_errors_26 rfl rfl ?_
  obtain ⟨J47, hT⟩ := hT
  obtain ⟨J80, hT⟩ := hT
  obtain ⟨hj83, hT⟩ := hT
  obtain ⟨hj171, hT⟩ := hT
  have K172 : ∀ (v78 : Int) (s79 : Sto), J80 v78 s79 → Go (SL n) M_La_errors (fI Q) 0 0 176 [(0, .ref 0), (2, iV r9), (3, iV (-10001)), (4, iV (-10002))] [iV v78] s79 := by
    intro v78 s79 q276
    replace hT := hj171 v78 s79 q276
    refine g_istore (npc := 178) (l' := [(0, .ref 0), (2, iV r9), (3, iV (-10001)), (4, iV (-10002)), (5, iV v78)]) dL_errors_176 rfl (by decide) rfl ?_
    refine g_iload (npc := 180) dL_errors_178 rfl rfl ?_
    obtain ⟨h85, hTt, hTf⟩ := hT
    refine g_if_eq (npc := 183) (tgt := 306) dL_errors_180 rfl (by decide) h85 (fun c86 => ?_) (fun c86 => ?_)
    · replace hT := hTt c86
      refine g_iconst (npc := 307) dL_errors_306 rfl ?_
      exact g_iret dL_errors_307 rfl (by decide) (by decide) ⟨_, rfl, hT⟩
    · replace hT := hTf c86
      refine g_aload_n (npc := 184) dL_errors_183 rfl rfl rfl ?_
      refine g_iconst (npc := 185) dL_errors_184 rfl ?_
      obtain ⟨Q87, h88, hT⟩ := hT
      refine iv_La_81 (npc := 188) dL_errors_185 rfl rfl (Nat.le_of_ble_eq_true rfl) (by decide) (by decide) h88 (fun r90 s89 e91 => ?_)
      replace hT := hT r90 s89 e91
      refine g_iload_n (npc := 189) dL_errors_188 rfl rfl rfl ?_
      obtain ⟨h92, hTt, hTf⟩ := hT
      refine g_icmp_ne (npc := 192) (tgt := 306) dL_errors_189 rfl (by decide) ⟨h92, by decide, by decide⟩ (fun c93 => ?_) (fun c93 => ?_)
      · replace hT := hTt c93
        refine g_iconst (npc := 307) dL_errors_306 rfl ?_
        exact g_iret dL_errors_307 rfl (by decide) (by decide) ⟨_, rfl, hT⟩
      · replace hT := hTf (Decidable.not_not.mp c93)
        refine g_aload_n (npc := 193) dL_errors_192 rfl rfl rfl ?_
        refine g_iconst (npc := 194) dL_errors_193 rfl ?_
        obtain ⟨Q94, h95, hT⟩ := hT
        refine iv_La_128 (npc := 197) dL_errors_194 rfl rfl (Nat.le_of_ble_eq_true rfl) (by decide) (by decide) h95 (fun r97 s96 e98 => ?_)
        replace hT := hT r97 s96 e98
        refine g_iload_n (npc := 198) dL_errors_197 rfl rfl rfl ?_
        obtain ⟨h99, hTt, hTf⟩ := hT
        refine g_icmp_ne (npc := 201) (tgt := 306) dL_errors_198 rfl (by decide) ⟨h99, by decide, by decide⟩ (fun c100 => ?_) (fun c100 => ?_)
        · replace hT := hTt c100
          refine g_iconst (npc := 307) dL_errors_306 rfl ?_
          exact g_iret dL_errors_307 rfl (by decide) (by decide) ⟨_, rfl, hT⟩
        · replace hT := hTf (Decidable.not_not.mp c100)
          refine g_aload_n (npc := 202) dL_errors_201 rfl rfl rfl ?_
          refine g_iconst (npc := 203) dL_errors_202 rfl ?_
          obtain ⟨Q101, h102, hT⟩ := hT
          refine iv_La_99 (npc := 206) dL_errors_203 rfl rfl (Nat.le_of_ble_eq_true rfl) (by decide) (by decide) h102 (fun r104 s103 e105 => ?_)
          replace hT := hT r104 s103 e105
          refine g_iload_n (npc := 207) dL_errors_206 rfl rfl rfl ?_
          obtain ⟨h106, hTt, hTf⟩ := hT
          refine g_icmp_ne (npc := 210) (tgt := 306) dL_errors_207 rfl (by decide) ⟨h106, by decide, by decide⟩ (fun c107 => ?_) (fun c107 => ?_)
          · replace hT := hTt c107
            refine g_iconst (npc := 307) dL_errors_306 rfl ?_
            exact g_iret dL_errors_307 rfl (by decide) (by decide) ⟨_, rfl, hT⟩
          · replace hT := hTf (Decidable.not_not.mp c107)
            refine g_aload_n (npc := 211) dL_errors_210 rfl rfl rfl ?_
            refine g_iconst (npc := 212) dL_errors_211 rfl ?_
            obtain ⟨Q108, h109, hT⟩ := hT
            refine iv_La_84 (npc := 215) dL_errors_212 rfl rfl (Nat.le_of_ble_eq_true rfl) (by decide) (by decide) h109 (fun r111 s110 e112 => ?_)
            replace hT := hT r111 s110 e112
            refine g_iload_n (npc := 216) dL_errors_215 rfl rfl rfl ?_
            obtain ⟨h113, hTt, hTf⟩ := hT
            refine g_icmp_ne (npc := 219) (tgt := 306) dL_errors_216 rfl (by decide) ⟨h113, by decide, by decide⟩ (fun c114 => ?_) (fun c114 => ?_)
            · replace hT := hTt c114
              refine g_iconst (npc := 307) dL_errors_306 rfl ?_
              exact g_iret dL_errors_307 rfl (by decide) (by decide) ⟨_, rfl, hT⟩
            · replace hT := hTf (Decidable.not_not.mp c114)
              refine g_aload_n (npc := 220) dL_errors_219 rfl rfl rfl ?_
              refine g_iconst (npc := 221) dL_errors_220 rfl ?_
              obtain ⟨Q115, h116, hT⟩ := hT
              refine iv_La_128 (npc := 224) dL_errors_221 rfl rfl (Nat.le_of_ble_eq_true rfl) (by decide) (by decide) h116 (fun r118 s117 e119 => ?_)
              replace hT := hT r118 s117 e119
              refine g_sipush (npc := 227) (x := (-10004)) dL_errors_224 rfl (by decide) ?_
              obtain ⟨h120, hTt, hTf⟩ := hT
              refine g_icmp_ne (npc := 230) (tgt := 306) dL_errors_227 rfl (by decide) ⟨h120, by decide, by decide⟩ (fun c121 => ?_) (fun c121 => ?_)
              · replace hT := hTt c121
                refine g_iconst (npc := 307) dL_errors_306 rfl ?_
                exact g_iret dL_errors_307 rfl (by decide) (by decide) ⟨_, rfl, hT⟩
              · replace hT := hTf (Decidable.not_not.mp c121)
                refine g_aload_n (npc := 231) dL_errors_230 rfl rfl rfl ?_
                refine g_iconst (npc := 232) dL_errors_231 rfl ?_
                obtain ⟨Q122, h123, hT⟩ := hT
                refine iv_La_99 (npc := 235) dL_errors_232 rfl rfl (Nat.le_of_ble_eq_true rfl) (by decide) (by decide) h123 (fun r125 s124 e126 => ?_)
                replace hT := hT r125 s124 e126
                refine g_sipush (npc := 238) (x := (-10004)) dL_errors_235 rfl (by decide) ?_
                obtain ⟨h127, hTt, hTf⟩ := hT
                refine g_icmp_ne (npc := 241) (tgt := 306) dL_errors_238 rfl (by decide) ⟨h127, by decide, by decide⟩ (fun c128 => ?_) (fun c128 => ?_)
                · replace hT := hTt c128
                  refine g_iconst (npc := 307) dL_errors_306 rfl ?_
                  exact g_iret dL_errors_307 rfl (by decide) (by decide) ⟨_, rfl, hT⟩
                · replace hT := hTf (Decidable.not_not.mp c128)
                  refine g_aload_n (npc := 242) dL_errors_241 rfl rfl rfl ?_
                  refine g_iconst (npc := 243) dL_errors_242 rfl ?_
                  obtain ⟨Q129, h130, hT⟩ := hT
                  refine iv_La_84 (npc := 246) dL_errors_243 rfl rfl (Nat.le_of_ble_eq_true rfl) (by decide) (by decide) h130 (fun r132 s131 e133 => ?_)
                  replace hT := hT r132 s131 e133
                  refine g_sipush (npc := 249) (x := (-10004)) dL_errors_246 rfl (by decide) ?_
                  obtain ⟨h134, hTt, hTf⟩ := hT
                  refine g_icmp_ne (npc := 252) (tgt := 306) dL_errors_249 rfl (by decide) ⟨h134, by decide, by decide⟩ (fun c135 => ?_) (fun c135 => ?_)
                  · replace hT := hTt c135
                    refine g_iconst (npc := 307) dL_errors_306 rfl ?_
                    exact g_iret dL_errors_307 rfl (by decide) (by decide) ⟨_, rfl, hT⟩
                  · replace hT := hTf (Decidable.not_not.mp c135)
                    refine g_aload_n (npc := 253) dL_errors_252 rfl rfl rfl ?_
                    refine g_iload_n (npc := 254) dL_errors_253 rfl rfl rfl ?_
                    obtain ⟨Q136, h137, hT⟩ := hT
                    refine iv_La_96 (npc := 257) dL_errors_254 rfl rfl (Nat.le_of_ble_eq_true rfl) (by decide) (by decide) h137 (fun r139 s138 e140 => ?_)
                    replace hT := hT r139 s138 e140
                    refine g_iload_n (npc := 258) dL_errors_257 rfl rfl rfl ?_
                    obtain ⟨h141, hTt, hTf⟩ := hT
                    refine g_icmp_ne (npc := 261) (tgt := 306) dL_errors_258 rfl (by decide) ⟨h141, by decide, by decide⟩ (fun c142 => ?_) (fun c142 => ?_)
                    · replace hT := hTt c142
                      refine g_iconst (npc := 307) dL_errors_306 rfl ?_
                      exact g_iret dL_errors_307 rfl (by decide) (by decide) ⟨_, rfl, hT⟩
                    · replace hT := hTf (Decidable.not_not.mp c142)
                      refine g_aload_n (npc := 262) dL_errors_261 rfl rfl rfl ?_
                      refine g_iconst (npc := 263) dL_errors_262 rfl ?_
                      obtain ⟨Q143, h144, hT⟩ := hT
                      refine iv_La_93 (npc := 266) dL_errors_263 rfl rfl (Nat.le_of_ble_eq_true rfl) (by decide) (by decide) h144 (fun r146 s145 e147 => ?_)
                      replace hT := hT r146 s145 e147
                      refine g_iload (npc := 268) dL_errors_266 rfl rfl ?_
                      obtain ⟨h148, hTt, hTf⟩ := hT
                      refine g_icmp_ne (npc := 271) (tgt := 306) dL_errors_268 rfl (by decide) ⟨h148, by decide, by decide⟩ (fun c149 => ?_) (fun c149 => ?_)
                      · replace hT := hTt c149
                        refine g_iconst (npc := 307) dL_errors_306 rfl ?_
                        exact g_iret dL_errors_307 rfl (by decide) (by decide) ⟨_, rfl, hT⟩
                      · replace hT := hTf (Decidable.not_not.mp c149)
                        refine g_aload_n (npc := 272) dL_errors_271 rfl rfl rfl ?_
                        refine g_iconst (npc := 273) dL_errors_272 rfl ?_
                        obtain ⟨Q150, h151, hT⟩ := hT
                        refine iv_La_93 (npc := 276) dL_errors_273 rfl rfl (Nat.le_of_ble_eq_true rfl) (by decide) (by decide) h151 (fun r153 s152 e154 => ?_)
                        replace hT := hT r153 s152 e154
                        refine g_iload (npc := 278) dL_errors_276 rfl rfl ?_
                        obtain ⟨h155, hTt, hTf⟩ := hT
                        refine g_icmp_ne (npc := 281) (tgt := 306) dL_errors_278 rfl (by decide) ⟨h155, by decide, by decide⟩ (fun c156 => ?_) (fun c156 => ?_)
                        · replace hT := hTt c156
                          refine g_iconst (npc := 307) dL_errors_306 rfl ?_
                          exact g_iret dL_errors_307 rfl (by decide) (by decide) ⟨_, rfl, hT⟩
                        · replace hT := hTf (Decidable.not_not.mp c156)
                          refine g_aload_n (npc := 282) dL_errors_281 rfl rfl rfl ?_
                          refine g_iload_n (npc := 283) dL_errors_282 rfl rfl rfl ?_
                          obtain ⟨J158, hT⟩ := hT
                          obtain ⟨hj168, hT⟩ := hT
                          have K169 : ∀ (v157 : Int), J158 v157 → Go (SL n) M_La_errors (fI Q) 0 0 291 [(4, iV (-10002))] [iV v157, .ref 0] s152 := by
                            intro v157 q170
                            replace hT := hj168 v157 q170
                            refine g_sipush (npc := 294) (x := 1001) dL_errors_291 rfl (by decide) ?_
                            obtain ⟨Q161, h162, hT⟩ := hT
                            refine iv_La_22 (npc := 297) dL_errors_294 rfl rfl (Nat.le_of_ble_eq_true rfl) (by decide) (by decide) h162 (fun r164 s163 e165 => ?_)
                            replace hT := hT r164 s163 e165
                            refine g_iload (npc := 299) dL_errors_297 rfl rfl ?_
                            obtain ⟨h166, hTt, hTf⟩ := hT
                            refine g_icmp_ne (npc := 302) (tgt := 306) dL_errors_299 rfl (by decide) ⟨h166, by decide, by decide⟩ (fun c167 => ?_) (fun c167 => ?_)
                            · replace hT := hTt c167
                              refine g_iconst (npc := 307) dL_errors_306 rfl ?_
                              exact g_iret dL_errors_307 rfl (by decide) (by decide) ⟨_, rfl, hT⟩
                            · replace hT := hTf (Decidable.not_not.mp c167)
                              refine g_iconst (npc := 303) dL_errors_302 rfl ?_
                              refine g_goto (npc := 307) dL_errors_303 (by decide) ?_
                              exact g_iret dL_errors_307 rfl (by decide) (by decide) ⟨_, rfl, hT⟩
                          obtain ⟨h159, hTt, hTf⟩ := hT
                          refine g_if_ne (npc := 286) (tgt := 290) dL_errors_283 rfl (by decide) h159 (fun c160 => ?_) (fun c160 => ?_)
                          · replace hT := hTt c160
                            refine g_iconst (npc := 291) dL_errors_290 rfl ?_
                            refine Go.lsub [3] rfl ?_
                            exact K169 _ hT
                          · replace hT := hTf (Decidable.not_not.mp c160)
                            refine g_iconst (npc := 287) dL_errors_286 rfl ?_
                            refine g_goto (npc := 291) dL_errors_287 (by decide) ?_
                            refine Go.lsub [3] rfl ?_
                            exact K169 _ hT
  have K84 : ∀ (s46 : Sto), J47 s46 → Go (SL n) M_La_errors (fI Q) 0 0 175 [(0, .ref 0), (2, iV r9), (3, iV (-10001)), (4, iV (-10002))] [] s46 := by
    intro s46 q277
    replace hT := hj83 s46 q277
    refine g_iconst (npc := 176) dL_errors_175 rfl ?_
    exact K172 _ _ hT
  obtain ⟨h81, hTt, hTf⟩ := hT
  refine g_icmp_ne (npc := 31) (tgt := 175) dL_errors_28 rfl (by decide) ⟨h81, by decide, by decide⟩ (fun c82 => ?_) (fun c82 => ?_)
  · replace hT := hTt c82
    refine Go.lsub [0, 2, 3, 4] rfl ?_
    exact K84 _ hT
  · replace hT := hTf (Decidable.not_not.mp c82)
    refine g_aload_n (npc := 32) dL_errors_31 rfl rfl rfl ?_
    refine g_bipush (npc := 34) (x := 9) dL_errors_32 rfl (by decide) ?_
    obtain ⟨Q173, h174, hT⟩ := hT
    refine iv_La_116 (npc := 37) dL_errors_34 rfl rfl (Nat.le_of_ble_eq_true rfl) (by decide) (by decide) h174 (fun r176 s175 e177 => ?_)
    replace hT := hT r176 s175 e177
    refine g_iload (npc := 39) dL_errors_37 rfl rfl ?_
    obtain ⟨h178, hTt, hTf⟩ := hT
    refine g_icmp_ne (npc := 42) (tgt := 175) dL_errors_39 rfl (by decide) ⟨h178, by decide, by decide⟩ (fun c179 => ?_) (fun c179 => ?_)
    · replace hT := hTt c179
      refine Go.lsub [0, 2, 3, 4] rfl ?_
      exact K84 _ hT
    · replace hT := hTf (Decidable.not_not.mp c179)
      refine g_aload_n (npc := 43) dL_errors_42 rfl rfl rfl ?_
      refine g_iconst (npc := 44) dL_errors_43 rfl ?_
      refine g_iload_n (npc := 45) dL_errors_44 rfl rfl rfl ?_
      obtain ⟨Q180, h181, hT⟩ := hT
      refine iv_La_119 (npc := 48) dL_errors_45 rfl rfl (Nat.le_of_ble_eq_true rfl) (by decide) (by decide) h181 (fun r183 s182 e184 => ?_)
      replace hT := hT r183 s182 e184
      refine g_iload_n (npc := 49) dL_errors_48 rfl rfl rfl ?_
      obtain ⟨h185, hTt, hTf⟩ := hT
      refine g_icmp_ne (npc := 52) (tgt := 175) dL_errors_49 rfl (by decide) ⟨h185, by decide, by decide⟩ (fun c186 => ?_) (fun c186 => ?_)
      · replace hT := hTt c186
        refine Go.lsub [0, 2, 3, 4] rfl ?_
        exact K84 _ hT
      · replace hT := hTf (Decidable.not_not.mp c186)
        refine g_aload_n (npc := 53) dL_errors_52 rfl rfl rfl ?_
        refine g_iconst (npc := 54) dL_errors_53 rfl ?_
        refine g_iconst (npc := 55) dL_errors_54 rfl ?_
        obtain ⟨Q187, h188, hT⟩ := hT
        refine iv_La_119 (npc := 58) dL_errors_55 rfl rfl (Nat.le_of_ble_eq_true rfl) (by decide) (by decide) h188 (fun r190 s189 e191 => ?_)
        replace hT := hT r190 s189 e191
        refine g_iload (npc := 60) dL_errors_58 rfl rfl ?_
        obtain ⟨h192, hTt, hTf⟩ := hT
        refine g_icmp_ne (npc := 63) (tgt := 175) dL_errors_60 rfl (by decide) ⟨h192, by decide, by decide⟩ (fun c193 => ?_) (fun c193 => ?_)
        · replace hT := hTt c193
          refine Go.lsub [0, 2, 3, 4] rfl ?_
          exact K84 _ hT
        · replace hT := hTf (Decidable.not_not.mp c193)
          refine g_aload_n (npc := 64) dL_errors_63 rfl rfl rfl ?_
          refine g_aload_n (npc := 65) dL_errors_64 rfl rfl rfl ?_
          refine g_iconst (npc := 66) dL_errors_65 rfl ?_
          obtain ⟨Q194, h195, hT⟩ := hT
          refine iv_La_9 (npc := 69) dL_errors_66 rfl rfl (Nat.le_of_ble_eq_true rfl) (by decide) (by decide) h195 (fun r197 s196 e198 => ?_)
          replace hT := hT r197 s196 e198
          obtain ⟨Q199, h200, hT⟩ := hT
          refine iv_La_122 (npc := 72) dL_errors_69 rfl rfl (Nat.le_of_ble_eq_true rfl) (by decide) (by decide) h200 (fun r202 s201 e203 => ?_)
          replace hT := hT r202 s201 e203
          refine g_iload_n (npc := 73) dL_errors_72 rfl rfl rfl ?_
          obtain ⟨h204, hTt, hTf⟩ := hT
          refine g_icmp_ne (npc := 76) (tgt := 175) dL_errors_73 rfl (by decide) ⟨h204, by decide, by decide⟩ (fun c205 => ?_) (fun c205 => ?_)
          · replace hT := hTt c205
            refine Go.lsub [0, 2, 3, 4] rfl ?_
            exact K84 _ hT
          · replace hT := hTf (Decidable.not_not.mp c205)
            refine g_aload_n (npc := 77) dL_errors_76 rfl rfl rfl ?_
            refine g_iload_n (npc := 78) dL_errors_77 rfl rfl rfl ?_
            obtain ⟨Q206, h207, hT⟩ := hT
            refine iv_La_125 (npc := 81) dL_errors_78 rfl rfl (Nat.le_of_ble_eq_true rfl) (by decide) (by decide) h207 (fun r209 s208 e210 => ?_)
            replace hT := hT r209 s208 e210
            refine g_iload_n (npc := 82) dL_errors_81 rfl rfl rfl ?_
            obtain ⟨h211, hTt, hTf⟩ := hT
            refine g_icmp_ne (npc := 85) (tgt := 175) dL_errors_82 rfl (by decide) ⟨h211, by decide, by decide⟩ (fun c212 => ?_) (fun c212 => ?_)
            · replace hT := hTt c212
              refine Go.lsub [0, 2, 3, 4] rfl ?_
              exact K84 _ hT
            · replace hT := hTf (Decidable.not_not.mp c212)
              refine g_aload_n (npc := 86) dL_errors_85 rfl rfl rfl ?_
              refine g_bipush (npc := 88) (x := 7) dL_errors_86 rfl (by decide) ?_
              obtain ⟨Q213, h214, hT⟩ := hT
              refine iv_La_9 (npc := 91) dL_errors_88 rfl rfl (Nat.le_of_ble_eq_true rfl) (by decide) (by decide) h214 (fun r216 s215 e217 => ?_)
              replace hT := hT r216 s215 e217
              refine g_iload (npc := 93) dL_errors_91 rfl rfl ?_
              obtain ⟨h218, hTt, hTf⟩ := hT
              refine g_icmp_ne (npc := 96) (tgt := 175) dL_errors_93 rfl (by decide) ⟨h218, by decide, by decide⟩ (fun c219 => ?_) (fun c219 => ?_)
              · replace hT := hTt c219
                refine Go.lsub [0, 2, 3, 4] rfl ?_
                exact K84 _ hT
              · replace hT := hTf (Decidable.not_not.mp c219)
                refine g_aload_n (npc := 97) dL_errors_96 rfl rfl rfl ?_
                refine g_iload_n (npc := 98) dL_errors_97 rfl rfl rfl ?_
                obtain ⟨Q220, h221, hT⟩ := hT
                refine iv_La_67 (npc := 101) dL_errors_98 rfl rfl (Nat.le_of_ble_eq_true rfl) (by decide) (by decide) h221 (fun r223 s222 e224 => ?_)
                replace hT := hT r223 s222 e224
                refine g_iload_n (npc := 102) dL_errors_101 rfl rfl rfl ?_
                obtain ⟨h225, hTt, hTf⟩ := hT
                refine g_icmp_ne (npc := 105) (tgt := 175) dL_errors_102 rfl (by decide) ⟨h225, by decide, by decide⟩ (fun c226 => ?_) (fun c226 => ?_)
                · replace hT := hTt c226
                  refine Go.lsub [0, 2, 3, 4] rfl ?_
                  exact K84 _ hT
                · replace hT := hTf (Decidable.not_not.mp c226)
                  refine g_aload_n (npc := 106) dL_errors_105 rfl rfl rfl ?_
                  refine g_iconst (npc := 107) dL_errors_106 rfl ?_
                  refine g_iconst (npc := 108) dL_errors_107 rfl ?_
                  obtain ⟨Q227, h228, hT⟩ := hT
                  refine iv_La_15 (npc := 111) dL_errors_108 rfl rfl (Nat.le_of_ble_eq_true rfl) (by decide) (by decide) h228 (fun r230 s229 e231 => ?_)
                  replace hT := hT r230 s229 e231
                  refine g_iload_n (npc := 112) dL_errors_111 rfl rfl rfl ?_
                  obtain ⟨h232, hTt, hTf⟩ := hT
                  refine g_icmp_ne (npc := 115) (tgt := 175) dL_errors_112 rfl (by decide) ⟨h232, by decide, by decide⟩ (fun c233 => ?_) (fun c233 => ?_)
                  · replace hT := hTt c233
                    refine Go.lsub [0, 2, 3, 4] rfl ?_
                    exact K84 _ hT
                  · replace hT := hTf (Decidable.not_not.mp c233)
                    refine g_aload_n (npc := 116) dL_errors_115 rfl rfl rfl ?_
                    refine g_iload_n (npc := 117) dL_errors_116 rfl rfl rfl ?_
                    refine g_iconst (npc := 118) dL_errors_117 rfl ?_
                    obtain ⟨Q234, h235, hT⟩ := hT
                    refine iv_La_22 (npc := 121) dL_errors_118 rfl rfl (Nat.le_of_ble_eq_true rfl) (by decide) (by decide) h235 (fun r237 s236 e238 => ?_)
                    replace hT := hT r237 s236 e238
                    refine g_iload_n (npc := 122) dL_errors_121 rfl rfl rfl ?_
                    obtain ⟨h239, hTt, hTf⟩ := hT
                    refine g_icmp_ne (npc := 125) (tgt := 175) dL_errors_122 rfl (by decide) ⟨h239, by decide, by decide⟩ (fun c240 => ?_) (fun c240 => ?_)
                    · replace hT := hTt c240
                      refine Go.lsub [0, 2, 3, 4] rfl ?_
                      exact K84 _ hT
                    · replace hT := hTf (Decidable.not_not.mp c240)
                      refine g_aload_n (npc := 126) dL_errors_125 rfl rfl rfl ?_
                      refine g_iload_n (npc := 127) dL_errors_126 rfl rfl rfl ?_
                      refine g_iconst (npc := 128) dL_errors_127 rfl ?_
                      obtain ⟨Q241, h242, hT⟩ := hT
                      refine iv_La_22 (npc := 131) dL_errors_128 rfl rfl (Nat.le_of_ble_eq_true rfl) (by decide) (by decide) h242 (fun r244 s243 e245 => ?_)
                      replace hT := hT r244 s243 e245
                      refine g_iload_n (npc := 132) dL_errors_131 rfl rfl rfl ?_
                      obtain ⟨h246, hTt, hTf⟩ := hT
                      refine g_icmp_ne (npc := 135) (tgt := 175) dL_errors_132 rfl (by decide) ⟨h246, by decide, by decide⟩ (fun c247 => ?_) (fun c247 => ?_)
                      · replace hT := hTt c247
                        refine Go.lsub [0, 2, 3, 4] rfl ?_
                        exact K84 _ hT
                      · replace hT := hTf (Decidable.not_not.mp c247)
                        refine g_aload_n (npc := 136) dL_errors_135 rfl rfl rfl ?_
                        refine g_iload_n (npc := 137) dL_errors_136 rfl rfl rfl ?_
                        obtain ⟨Q248, h249, hT⟩ := hT
                        refine iv_La_19 (npc := 140) dL_errors_137 rfl rfl (Nat.le_of_ble_eq_true rfl) (by decide) (by decide) h249 (fun r251 s250 e252 => ?_)
                        replace hT := hT r251 s250 e252
                        refine g_iload_n (npc := 141) dL_errors_140 rfl rfl rfl ?_
                        obtain ⟨h253, hTt, hTf⟩ := hT
                        refine g_icmp_ne (npc := 144) (tgt := 175) dL_errors_141 rfl (by decide) ⟨h253, by decide, by decide⟩ (fun c254 => ?_) (fun c254 => ?_)
                        · replace hT := hTt c254
                          refine Go.lsub [0, 2, 3, 4] rfl ?_
                          exact K84 _ hT
                        · replace hT := hTf (Decidable.not_not.mp c254)
                          refine g_aload_n (npc := 145) dL_errors_144 rfl rfl rfl ?_
                          refine g_iload_n (npc := 146) dL_errors_145 rfl rfl rfl ?_
                          obtain ⟨Q255, h256, hT⟩ := hT
                          refine iv_La_74 (npc := 149) dL_errors_146 rfl rfl (Nat.le_of_ble_eq_true rfl) (by decide) (by decide) h256 (fun r258 s257 e259 => ?_)
                          replace hT := hT r258 s257 e259
                          refine g_iload_n (npc := 150) dL_errors_149 rfl rfl rfl ?_
                          obtain ⟨h260, hTt, hTf⟩ := hT
                          refine g_icmp_ne (npc := 153) (tgt := 175) dL_errors_150 rfl (by decide) ⟨h260, by decide, by decide⟩ (fun c261 => ?_) (fun c261 => ?_)
                          · replace hT := hTt c261
                            refine Go.lsub [0, 2, 3, 4] rfl ?_
                            exact K84 _ hT
                          · replace hT := hTf (Decidable.not_not.mp c261)
                            refine g_aload_n (npc := 154) dL_errors_153 rfl rfl rfl ?_
                            refine g_iload_n (npc := 155) dL_errors_154 rfl rfl rfl ?_
                            obtain ⟨Q262, h263, hT⟩ := hT
                            refine iv_La_64 (npc := 158) dL_errors_155 rfl rfl (Nat.le_of_ble_eq_true rfl) (by decide) (by decide) h263 (fun r265 s264 e266 => ?_)
                            replace hT := hT r265 s264 e266
                            refine g_iload_n (npc := 159) dL_errors_158 rfl rfl rfl ?_
                            obtain ⟨h267, hTt, hTf⟩ := hT
                            refine g_icmp_ne (npc := 162) (tgt := 175) dL_errors_159 rfl (by decide) ⟨h267, by decide, by decide⟩ (fun c268 => ?_) (fun c268 => ?_)
                            · replace hT := hTt c268
                              refine Go.lsub [0, 2, 3, 4] rfl ?_
                              exact K84 _ hT
                            · replace hT := hTf (Decidable.not_not.mp c268)
                              refine g_aload_n (npc := 163) dL_errors_162 rfl rfl rfl ?_
                              refine g_iload_n (npc := 164) dL_errors_163 rfl rfl rfl ?_
                              obtain ⟨Q269, h270, hT⟩ := hT
                              refine iv_La_113 (npc := 167) dL_errors_164 rfl rfl (Nat.le_of_ble_eq_true rfl) (by decide) (by decide) h270 (fun r272 s271 e273 => ?_)
                              replace hT := hT r272 s271 e273
                              refine g_iload_n (npc := 168) dL_errors_167 rfl rfl rfl ?_
                              obtain ⟨h274, hTt, hTf⟩ := hT
                              refine g_icmp_ne (npc := 171) (tgt := 175) dL_errors_168 rfl (by decide) ⟨h274, by decide, by decide⟩ (fun c275 => ?_) (fun c275 => ?_)
                              · replace hT := hTt c275
                                refine Go.lsub [0, 2, 3, 4] rfl ?_
                                exact K84 _ hT
                              · replace hT := hTf (Decidable.not_not.mp c275)
                                refine g_iconst (npc := 172) dL_errors_171 rfl ?_
                                refine g_goto (npc := 176) dL_errors_172 (by decide) ?_
                                refine Go.lsub [0, 2, 3, 4] rfl ?_
                                exact K172 _ _ hT
abbrev H_La_law_104 (n : Nat) (cs ss : Nat) (Q : Int → Sto → Prop) (x3 : Int) (x4 : Int) (x5 : Int) (s : Sto) : Prop := Go (SL n) M_La_law (fI Q) cs ss 104 [(0, .ref 2000), (1, .ref 0), (3, iV x3), (4, iV x4), (5, iV x5)] [] s
abbrev H_La_law_287 (n : Nat) (cs ss : Nat) (Q : Int → Sto → Prop) (x3 : Int) (x4 : Int) (x5 : Int) (s : Sto) : Prop := Go (SL n) M_La_law (fI Q) cs ss 287 [(0, .ref 2000), (1, .ref 0), (3, iV x3), (4, iV x4), (5, iV x5)] [] s
abbrev H_La_law_416 (n : Nat) (cs ss : Nat) (Q : Int → Sto → Prop) (x3 : Int) (x4 : Int) (x5 : Int) (x6 : Int) (x7 : Int) (x9 : Int) (s : Sto) : Prop := Go (SL n) M_La_law (fI Q) cs ss 416 [(0, .ref 2000), (1, .ref 0), (3, iV x3), (4, iV x4), (5, iV x5), (6, iV x6), (7, iV x7), (9, iV x9)] [] s
set_option maxRecDepth 20000 in
theorem b_La_law_104 {cs ss : Nat} {Q : Int → Sto → Prop} {x3 : Int} {x4 : Int} {x5 : Int} {s : Sto} (hT : (-2147483648 ≤ x5 ∧ x5 < 2147483648) ∧ ((14 ≤ x5) → H_La_law_287 0 cs ss Q x3 x4 0 s) ∧ ((x5 < 14) → (cs + 0 ≤ 600000 ∧ ss + 0 ≤ 7302250) ∧ ∃ Q87 : Int → Sto → Prop, K_La_cell 0 2000 (1 + x5) s Q87 ∧ ∀ r90 s89, Q87 r90 s89 → ∃ J100 : Int → Sto → Prop, (∀ v98 s99, J100 v98 s99 → ∃ J109 : Int → Sto → Prop, (∀ v107 s108, J109 v107 s108 → ∃ J116 : Sto → Prop, ∃ J126 : Int → Sto → Prop, (∀ s115, J116 s115 → (cs + 0 ≤ 600000 ∧ ss + 0 ≤ 7302250) ∧ ∃ Q129 : Int → Sto → Prop, K_Cg_addEdge 0 v98 v107 s115 Q129 ∧ ∀ r132 s131, Q129 r132 s131 → J126 r132 s131) ∧ (∀ v124 s125, J126 v124 s125 → ∃ J142 : Sto → Prop, (∀ s141, J142 s141 → (-2147483648 ≤ v124 ∧ v124 < 2147483648) ∧ ((v124 < 0) → H_La_law_104 0 cs ss Q x3 (x4 + 0) (x5 + 1) s141) ∧ ((0 ≤ v124) → H_La_law_104 0 cs ss Q x3 (x4 + 1) (x5 + 1) s141)) ∧ (-2147483648 ≤ v124 ∧ v124 < 2147483648) ∧ ((v124 < 0) → (-2147483648 ≤ v124 ∧ v124 < 2147483648) ∧ ((v124 = (-1)) → J142 s125) ∧ ((¬ v124 = (-1)) → (-2147483648 ≤ v124 ∧ v124 < 2147483648) ∧ ((v124 = (-10002)) → J142 s125) ∧ ((¬ v124 = (-10002)) → (cs + 0 ≤ 600000 ∧ ss + 0 ≤ 7302250) ∧ Q 0 s125))) ∧ ((0 ≤ v124) → ((-2147483648 ≤ v124 ∧ v124 < 2147483648) ∧ -2147483648 ≤ x4 ∧ x4 < 2147483648) ∧ ((¬ v124 = x4) → (cs + 0 ≤ 600000 ∧ ss + 0 ≤ 7302250) ∧ Q 0 s125) ∧ ((v124 = x4) → (cs + 0 ≤ 600000 ∧ ss + 0 ≤ 7302250) ∧ ∃ Q157 : Int → Sto → Prop, K_Cg_edge 0 v124 0 s125 Q157 ∧ ∀ r160 s159, Q157 r160 s159 → ((-2147483648 ≤ r160 ∧ r160 < 2147483648) ∧ -2147483648 ≤ v98 ∧ v98 < 2147483648) ∧ ((¬ r160 = v98) → (cs + 0 ≤ 600000 ∧ ss + 0 ≤ 7302250) ∧ Q 0 s159) ∧ ((r160 = v98) → (cs + 0 ≤ 600000 ∧ ss + 0 ≤ 7302250) ∧ ∃ Q166 : Int → Sto → Prop, K_Cg_edge 0 v124 1 s159 Q166 ∧ ∀ r169 s168, Q166 r169 s168 → ((-2147483648 ≤ r169 ∧ r169 < 2147483648) ∧ -2147483648 ≤ v107 ∧ v107 < 2147483648) ∧ ((r169 = v107) → J142 s168) ∧ ((¬ r169 = v107) → (cs + 0 ≤ 600000 ∧ ss + 0 ≤ 7302250) ∧ Q 0 s168))))) ∧ ((-2147483648 ≤ (x5 + 1) ∧ (x5 + 1) < 2147483648) ∧ -2147483648 ≤ x3 ∧ x3 < 2147483648) ∧ (((x5 + 1) < x3) → J116 s108) ∧ ((x3 ≤ (x5 + 1)) → (cs + 0 ≤ 600000 ∧ ss + 0 ≤ 7302250) ∧ ∃ Q178 : Int → Sto → Prop, K_La_low 0 (ishr r90 8) 3 s108 Q178 ∧ ∀ r181 s180, Q178 r181 s180 → (-2147483648 ≤ r181 ∧ r181 < 2147483648) ∧ ((r181 ≤ 0) → J126 (-1) s180) ∧ ((0 < r181) → J116 s180))) ∧ ((-2147483648 ≤ (x5 + 1) ∧ (x5 + 1) < 2147483648) ∧ -2147483648 ≤ x3 ∧ x3 < 2147483648) ∧ ((x3 ≤ (x5 + 1)) → (cs + 0 ≤ 600000 ∧ ss + 0 ≤ 7302250) ∧ ∃ Q190 : Int → Sto → Prop, K_La_low 0 (ishr r90 4) x3 s99 Q190 ∧ ∀ r193 s192, Q190 r193 s192 → J109 r193 s192) ∧ (((x5 + 1) < x3) → J109 (x5 + 1) s99)) ∧ ((-2147483648 ≤ (x5 + 1) ∧ (x5 + 1) < 2147483648) ∧ -2147483648 ≤ x3 ∧ x3 < 2147483648) ∧ ((x3 ≤ (x5 + 1)) → (cs + 0 ≤ 600000 ∧ ss + 0 ≤ 7302250) ∧ ∃ Q199 : Int → Sto → Prop, K_La_low 0 r90 x3 s89 Q199 ∧ ∀ r202 s201, Q199 r202 s201 → J100 r202 s201) ∧ (((x5 + 1) < x3) → (cs + 0 ≤ 600000 ∧ ss + 0 ≤ 7302250) ∧ ∃ Q205 : Int → Sto → Prop, K_La_low 0 r90 (x5 + 1) s89 Q205 ∧ ∀ r208 s207, Q205 r208 s207 → J100 r208 s207))) : H_La_law_104 0 cs ss Q x3 x4 x5 s := by
  refine g_iload (npc := 106) dL_law_104 rfl rfl ?_
  refine g_bipush (npc := 108) (x := 14) dL_law_106 rfl (by decide) ?_
  obtain ⟨h85, hTt, hTf⟩ := hT
  refine g_icmp_ge (npc := 111) (tgt := 284) dL_law_108 rfl (by decide) ⟨h85, by decide, by decide⟩ (fun c86 => ?_) (fun c86 => ?_)
  · replace hT := hTt c86
    refine g_iconst (npc := 285) dL_law_284 rfl ?_
    refine g_istore (npc := 287) (l' := [(0, .ref 2000), (1, .ref 0), (3, iV x3), (4, iV x4), (5, iV 0)]) dL_law_285 rfl (by decide) rfl ?_
    exact hT
  · replace hT := hTf (Int.not_le.mp c86)
    refine g_aload_n (npc := 112) dL_law_111 rfl rfl rfl ?_
    refine g_iconst (npc := 113) dL_law_112 rfl ?_
    refine g_iload (npc := 115) dL_law_113 rfl rfl ?_
    refine g_iadd (npc := 116) dL_law_115 rfl ?_
    obtain ⟨h92, hT⟩ := hT
    obtain ⟨Q87, h88, hT⟩ := hT
    refine iv_La_135 (npc := 119) dL_law_116 rfl rfl (Nat.le_of_ble_eq_true rfl) (by decide) h92 h88 (fun r90 s89 e91 => ?_)
    replace hT := hT r90 s89 e91
    refine g_istore (npc := 121) (l' := [(0, .ref 2000), (1, .ref 0), (3, iV x3), (4, iV x4), (5, iV x5), (6, iV r90)]) dL_law_119 rfl (by decide) rfl ?_
    refine g_iload (npc := 123) dL_law_121 rfl rfl ?_
    refine g_iconst (npc := 124) dL_law_123 rfl ?_
    refine g_iadd (npc := 125) dL_law_124 rfl ?_
    refine g_iload_n (npc := 126) dL_law_125 rfl rfl rfl ?_
    obtain ⟨J100, hT⟩ := hT
    obtain ⟨hj197, hT⟩ := hT
    have K198 : ∀ (v98 : Int) (s99 : Sto), J100 v98 s99 → Go (SL 0) M_La_law (fI Q) cs ss 147 [(0, .ref 2000), (1, .ref 0), (3, iV x3), (4, iV x4), (5, iV x5), (6, iV r90)] [iV v98] s99 := by
      intro v98 s99 q211
      replace hT := hj197 v98 s99 q211
      refine g_istore (npc := 149) (l' := [(0, .ref 2000), (1, .ref 0), (3, iV x3), (4, iV x4), (5, iV x5), (6, iV r90), (7, iV v98)]) dL_law_147 rfl (by decide) rfl ?_
      refine g_iload (npc := 151) dL_law_149 rfl rfl ?_
      refine g_iconst (npc := 152) dL_law_151 rfl ?_
      refine g_iadd (npc := 153) dL_law_152 rfl ?_
      refine g_iload_n (npc := 154) dL_law_153 rfl rfl rfl ?_
      obtain ⟨J109, hT⟩ := hT
      obtain ⟨hj188, hT⟩ := hT
      have K189 : ∀ (v107 : Int) (s108 : Sto), J109 v107 s108 → Go (SL 0) M_La_law (fI Q) cs ss 172 [(0, .ref 2000), (1, .ref 0), (3, iV x3), (4, iV x4), (5, iV x5), (6, iV r90), (7, iV v98)] [iV v107] s108 := by
        intro v107 s108 q196
        replace hT := hj188 v107 s108 q196
        refine g_istore (npc := 174) (l' := [(0, .ref 2000), (1, .ref 0), (3, iV x3), (4, iV x4), (5, iV x5), (6, iV r90), (7, iV v98), (8, iV v107)]) dL_law_172 rfl (by decide) rfl ?_
        refine g_iload (npc := 176) dL_law_174 rfl rfl ?_
        refine g_iconst (npc := 177) dL_law_176 rfl ?_
        refine g_iadd (npc := 178) dL_law_177 rfl ?_
        refine g_iload_n (npc := 179) dL_law_178 rfl rfl rfl ?_
        obtain ⟨J116, hT⟩ := hT
        obtain ⟨J126, hT⟩ := hT
        obtain ⟨hj135, hT⟩ := hT
        obtain ⟨hj176, hT⟩ := hT
        have K177 : ∀ (v124 : Int) (s125 : Sto), J126 v124 s125 → Go (SL 0) M_La_law (fI Q) cs ss 206 [(0, .ref 2000), (1, .ref 0), (3, iV x3), (4, iV x4), (5, iV x5), (7, iV v98), (8, iV v107)] [iV v124] s125 := by
          intro v124 s125 q186
          replace hT := hj176 v124 s125 q186
          refine g_istore (npc := 208) (l' := [(0, .ref 2000), (1, .ref 0), (3, iV x3), (4, iV x4), (5, iV x5), (7, iV v98), (8, iV v107), (9, iV v124)]) dL_law_206 rfl (by decide) rfl ?_
          refine g_iload (npc := 210) dL_law_208 rfl rfl ?_
          obtain ⟨J142, hT⟩ := hT
          obtain ⟨hj147, hT⟩ := hT
          have K148 : ∀ (s141 : Sto), J142 s141 → Go (SL 0) M_La_law (fI Q) cs ss 263 [(0, .ref 2000), (1, .ref 0), (3, iV x3), (4, iV x4), (5, iV x5), (9, iV v124)] [] s141 := by
            intro s141 q175
            replace hT := hj147 s141 q175
            refine g_iload (npc := 265) dL_law_263 rfl rfl ?_
            refine g_iload (npc := 267) dL_law_265 rfl rfl ?_
            obtain ⟨h145, hTt, hTf⟩ := hT
            refine g_if_lt (npc := 270) (tgt := 274) dL_law_267 rfl (by decide) h145 (fun c146 => ?_) (fun c146 => ?_)
            · replace hT := hTt c146
              refine g_iconst (npc := 275) dL_law_274 rfl ?_
              refine g_iadd (npc := 276) dL_law_275 rfl ?_
              refine g_istore (npc := 278) (l' := [(0, .ref 2000), (1, .ref 0), (3, iV x3), (4, iV (x4 + 0)), (5, iV x5), (9, iV v124)]) dL_law_276 rfl (by decide) rfl ?_
              refine g_iinc (npc := 281) (y := (x5 + 1)) (l' := [(0, .ref 2000), (1, .ref 0), (3, iV x3), (4, iV (x4 + 0)), (5, iV (x5 + 1)), (9, iV v124)]) dL_law_278 rfl (by decide) rfl (by omega) rfl ?_
              refine g_goto (npc := 104) dL_law_281 (by decide) ?_
              refine Go.lsub [0, 1, 2, 3, 4] rfl ?_
              exact hT
            · replace hT := hTf (Int.not_lt.mp c146)
              refine g_iconst (npc := 271) dL_law_270 rfl ?_
              refine g_goto (npc := 275) dL_law_271 (by decide) ?_
              refine g_iadd (npc := 276) dL_law_275 rfl ?_
              refine g_istore (npc := 278) (l' := [(0, .ref 2000), (1, .ref 0), (3, iV x3), (4, iV (x4 + 1)), (5, iV x5), (9, iV v124)]) dL_law_276 rfl (by decide) rfl ?_
              refine g_iinc (npc := 281) (y := (x5 + 1)) (l' := [(0, .ref 2000), (1, .ref 0), (3, iV x3), (4, iV (x4 + 1)), (5, iV (x5 + 1)), (9, iV v124)]) dL_law_278 rfl (by decide) rfl (by omega) rfl ?_
              refine g_goto (npc := 104) dL_law_281 (by decide) ?_
              refine Go.lsub [0, 1, 2, 3, 4] rfl ?_
              exact hT
          obtain ⟨h143, hTt, hTf⟩ := hT
          refine g_if_lt (npc := 213) (tgt := 247) dL_law_210 rfl (by decide) h143 (fun c144 => ?_) (fun c144 => ?_)
          · replace hT := hTt c144
            refine g_iload (npc := 249) dL_law_247 rfl rfl ?_
            refine g_iconst (npc := 250) dL_law_249 rfl ?_
            obtain ⟨h149, hTt, hTf⟩ := hT
            refine g_icmp_eq (npc := 253) (tgt := 263) dL_law_250 rfl (by decide) ⟨h149, by decide, by decide⟩ (fun c150 => ?_) (fun c150 => ?_)
            · replace hT := hTt c150
              refine Go.lsub [0, 1, 2, 3, 4, 7] rfl ?_
              exact K148 _ hT
            · replace hT := hTf c150
              refine g_iload (npc := 255) dL_law_253 rfl rfl ?_
              refine g_sipush (npc := 258) (x := (-10002)) dL_law_255 rfl (by decide) ?_
              obtain ⟨h151, hTt, hTf⟩ := hT
              refine g_icmp_eq (npc := 261) (tgt := 263) dL_law_258 rfl (by decide) ⟨h151, by decide, by decide⟩ (fun c152 => ?_) (fun c152 => ?_)
              · replace hT := hTt c152
                refine Go.lsub [0, 1, 2, 3, 4, 7] rfl ?_
                exact K148 _ hT
              · replace hT := hTf c152
                refine g_iconst (npc := 262) dL_law_261 rfl ?_
                obtain ⟨h153, hT⟩ := hT
                exact g_iret dL_law_262 rfl (by decide) h153 ⟨_, rfl, hT⟩
          · replace hT := hTf (Int.not_lt.mp c144)
            refine g_iload (npc := 215) dL_law_213 rfl rfl ?_
            refine g_iload (npc := 217) dL_law_215 rfl rfl ?_
            obtain ⟨h154, hTt, hTf⟩ := hT
            refine g_icmp_ne (npc := 220) (tgt := 261) dL_law_217 rfl (by decide) h154 (fun c155 => ?_) (fun c155 => ?_)
            · replace hT := hTt c155
              refine g_iconst (npc := 262) dL_law_261 rfl ?_
              obtain ⟨h156, hT⟩ := hT
              exact g_iret dL_law_262 rfl (by decide) h156 ⟨_, rfl, hT⟩
            · replace hT := hTf (Decidable.not_not.mp c155)
              refine g_aload_n (npc := 221) dL_law_220 rfl rfl rfl ?_
              refine g_iload (npc := 223) dL_law_221 rfl rfl ?_
              refine g_iconst (npc := 224) dL_law_223 rfl ?_
              obtain ⟨h162, hT⟩ := hT
              obtain ⟨Q157, h158, hT⟩ := hT
              refine iv_La_15 (npc := 227) dL_law_224 rfl rfl (Nat.le_of_ble_eq_true rfl) (by decide) h162 h158 (fun r160 s159 e161 => ?_)
              replace hT := hT r160 s159 e161
              refine g_iload (npc := 229) dL_law_227 rfl rfl ?_
              obtain ⟨h163, hTt, hTf⟩ := hT
              refine g_icmp_ne (npc := 232) (tgt := 261) dL_law_229 rfl (by decide) h163 (fun c164 => ?_) (fun c164 => ?_)
              · replace hT := hTt c164
                refine g_iconst (npc := 262) dL_law_261 rfl ?_
                obtain ⟨h165, hT⟩ := hT
                exact g_iret dL_law_262 rfl (by decide) h165 ⟨_, rfl, hT⟩
              · replace hT := hTf (Decidable.not_not.mp c164)
                refine g_aload_n (npc := 233) dL_law_232 rfl rfl rfl ?_
                refine g_iload (npc := 235) dL_law_233 rfl rfl ?_
                refine g_iconst (npc := 236) dL_law_235 rfl ?_
                obtain ⟨h171, hT⟩ := hT
                obtain ⟨Q166, h167, hT⟩ := hT
                refine iv_La_15 (npc := 239) dL_law_236 rfl rfl (Nat.le_of_ble_eq_true rfl) (by decide) h171 h167 (fun r169 s168 e170 => ?_)
                replace hT := hT r169 s168 e170
                refine g_iload (npc := 241) dL_law_239 rfl rfl ?_
                obtain ⟨h172, hTt, hTf⟩ := hT
                refine g_icmp_eq (npc := 244) (tgt := 263) dL_law_241 rfl (by decide) h172 (fun c173 => ?_) (fun c173 => ?_)
                · replace hT := hTt c173
                  refine Go.lsub [0, 1, 2, 3, 4, 7] rfl ?_
                  exact K148 _ hT
                · replace hT := hTf c173
                  refine g_goto (npc := 261) dL_law_244 (by decide) ?_
                  refine g_iconst (npc := 262) dL_law_261 rfl ?_
                  obtain ⟨h174, hT⟩ := hT
                  exact g_iret dL_law_262 rfl (by decide) h174 ⟨_, rfl, hT⟩
        have K136 : ∀ (s115 : Sto), J116 s115 → Go (SL 0) M_La_law (fI Q) cs ss 194 [(0, .ref 2000), (1, .ref 0), (3, iV x3), (4, iV x4), (5, iV x5), (7, iV v98), (8, iV v107)] [] s115 := by
          intro s115 q187
          replace hT := hj135 s115 q187
          refine g_aload_n (npc := 195) dL_law_194 rfl rfl rfl ?_
          refine g_iload (npc := 197) dL_law_195 rfl rfl ?_
          refine g_iload (npc := 199) dL_law_197 rfl rfl ?_
          obtain ⟨h134, hT⟩ := hT
          obtain ⟨Q129, h130, hT⟩ := hT
          refine iv_La_119 (npc := 202) dL_law_199 rfl rfl (Nat.le_of_ble_eq_true rfl) (by decide) h134 h130 (fun r132 s131 e133 => ?_)
          replace hT := hT r132 s131 e133
          refine g_goto (npc := 206) dL_law_202 (by decide) ?_
          exact K177 _ _ hT
        obtain ⟨h127, hTt, hTf⟩ := hT
        refine g_icmp_lt (npc := 182) (tgt := 194) dL_law_179 rfl (by decide) h127 (fun c128 => ?_) (fun c128 => ?_)
        · replace hT := hTt c128
          refine Go.lsub [0, 1, 2, 3, 4, 6, 7] rfl ?_
          exact K136 _ hT
        · replace hT := hTf (Int.not_lt.mp c128)
          refine g_iload (npc := 184) dL_law_182 rfl rfl ?_
          refine g_bipush (npc := 186) (x := 8) dL_law_184 rfl (by decide) ?_
          refine g_ishr (npc := 187) dL_law_186 rfl ?_
          refine g_iconst (npc := 188) dL_law_187 rfl ?_
          obtain ⟨h183, hT⟩ := hT
          obtain ⟨Q178, h179, hT⟩ := hT
          refine iv_La_139 (npc := 191) dL_law_188 rfl rfl (Nat.le_of_ble_eq_true rfl) (by decide) h183 h179 (fun r181 s180 e182 => ?_)
          replace hT := hT r181 s180 e182
          obtain ⟨h184, hTt, hTf⟩ := hT
          refine g_if_le (npc := 194) (tgt := 205) dL_law_191 rfl (by decide) h184 (fun c185 => ?_) (fun c185 => ?_)
          · replace hT := hTt c185
            refine g_iconst (npc := 206) dL_law_205 rfl ?_
            refine Go.lsub [0, 1, 2, 3, 4, 6, 7] rfl ?_
            exact K177 _ _ hT
          · replace hT := hTf (Int.not_le.mp c185)
            refine Go.lsub [0, 1, 2, 3, 4, 6, 7] rfl ?_
            exact K136 _ hT
      obtain ⟨h110, hTt, hTf⟩ := hT
      refine g_icmp_ge (npc := 157) (tgt := 164) dL_law_154 rfl (by decide) h110 (fun c111 => ?_) (fun c111 => ?_)
      · replace hT := hTt c111
        refine g_iload (npc := 166) dL_law_164 rfl rfl ?_
        refine g_iconst (npc := 167) dL_law_166 rfl ?_
        refine g_ishr (npc := 168) dL_law_167 rfl ?_
        refine g_iload_n (npc := 169) dL_law_168 rfl rfl rfl ?_
        obtain ⟨h195, hT⟩ := hT
        obtain ⟨Q190, h191, hT⟩ := hT
        refine iv_La_139 (npc := 172) dL_law_169 rfl rfl (Nat.le_of_ble_eq_true rfl) (by decide) h195 h191 (fun r193 s192 e194 => ?_)
        replace hT := hT r193 s192 e194
        exact K189 _ _ hT
      · replace hT := hTf (Int.not_le.mp c111)
        refine g_iload (npc := 159) dL_law_157 rfl rfl ?_
        refine g_iconst (npc := 160) dL_law_159 rfl ?_
        refine g_iadd (npc := 161) dL_law_160 rfl ?_
        refine g_goto (npc := 172) dL_law_161 (by decide) ?_
        exact K189 _ _ hT
    obtain ⟨h101, hTt, hTf⟩ := hT
    refine g_icmp_ge (npc := 129) (tgt := 141) dL_law_126 rfl (by decide) h101 (fun c102 => ?_) (fun c102 => ?_)
    · replace hT := hTt c102
      refine g_iload (npc := 143) dL_law_141 rfl rfl ?_
      refine g_iload_n (npc := 144) dL_law_143 rfl rfl rfl ?_
      obtain ⟨h204, hT⟩ := hT
      obtain ⟨Q199, h200, hT⟩ := hT
      refine iv_La_139 (npc := 147) dL_law_144 rfl rfl (Nat.le_of_ble_eq_true rfl) (by decide) h204 h200 (fun r202 s201 e203 => ?_)
      replace hT := hT r202 s201 e203
      exact K198 _ _ hT
    · replace hT := hTf (Int.not_le.mp c102)
      refine g_iload (npc := 131) dL_law_129 rfl rfl ?_
      refine g_iload (npc := 133) dL_law_131 rfl rfl ?_
      refine g_iconst (npc := 134) dL_law_133 rfl ?_
      refine g_iadd (npc := 135) dL_law_134 rfl ?_
      obtain ⟨h210, hT⟩ := hT
      obtain ⟨Q205, h206, hT⟩ := hT
      refine iv_La_139 (npc := 138) dL_law_135 rfl rfl (Nat.le_of_ble_eq_true rfl) (by decide) h210 h206 (fun r208 s207 e209 => ?_)
      replace hT := hT r208 s207 e209
      refine g_goto (npc := 147) dL_law_138 (by decide) ?_
      exact K198 _ _ hT
set_option maxRecDepth 20000 in
theorem b_La_law_287 {cs ss : Nat} {Q : Int → Sto → Prop} {x3 : Int} {x4 : Int} {x5 : Int} {s : Sto} (hT : (-2147483648 ≤ x5 ∧ x5 < 2147483648) ∧ ((8 ≤ x5) → (cs + 0 ≤ 600000 ∧ ss + 0 ≤ 7302250) ∧ ∃ Q214 : Int → Sto → Prop, K_La_errors 0 s Q214 ∧ ∀ r217 s216, Q214 r217 s216 → (cs + 0 ≤ 600000 ∧ ss + 0 ≤ 7302250) ∧ (r217 = 0 ∨ r217 = 1) ∧ Q r217 s216) ∧ ((x5 < 8) → (cs + 0 ≤ 600000 ∧ ss + 0 ≤ 7302250) ∧ ∃ Q222 : Int → Sto → Prop, K_La_cell 0 2000 (15 + (2 * x5)) s Q222 ∧ ∀ r225 s224, Q222 r225 s224 → (cs + 0 ≤ 600000 ∧ ss + 0 ≤ 7302250) ∧ ∃ Q228 : Int → Sto → Prop, K_La_cell 0 2000 (16 + (2 * x5)) s224 Q228 ∧ ∀ r231 s230, Q228 r231 s230 → (cs + 0 ≤ 600000 ∧ ss + 0 ≤ 7302250) ∧ ∃ Q234 : Int → Sto → Prop, K_La_low 0 r225 8 s230 Q234 ∧ ∀ r237 s236, Q234 r237 s236 → ∃ J247 : Prop, (J247 → (-2147483648 ≤ r237 ∧ r237 < 2147483648) ∧ ((¬ r237 = 1) → H_La_law_416 0 cs ss Q x3 x4 x5 r225 r231 0 s236) ∧ ((r237 = 1) → (cs + 0 ≤ 600000 ∧ ss + 0 ≤ 7302250) ∧ ∃ Q252 : Int → Sto → Prop, K_Cg_value 0 2 s236 Q252 ∧ ∀ r255 s254, Q252 r255 s254 → (cs + 0 ≤ 600000 ∧ ss + 0 ≤ 7302250) ∧ ∃ Q258 : Int → Sto → Prop, K_La_low 0 (ishr r225 4) x3 s254 Q258 ∧ ∀ r261 s260, Q258 r261 s260 → (cs + 0 ≤ 600000 ∧ ss + 0 ≤ 7302250) ∧ ∃ Q264 : Int → Sto → Prop, K_Cg_setSink 0 r261 s260 Q264 ∧ ∀ r267 s266, Q264 r267 s266 → ((-2147483648 ≤ r267 ∧ r267 < 2147483648) ∧ -2147483648 ≤ r255 ∧ r255 < 2147483648) ∧ ((¬ r267 = r255) → (cs + 0 ≤ 600000 ∧ ss + 0 ≤ 7302250) ∧ Q 0 s266) ∧ ((r267 = r255) → (cs + 0 ≤ 600000 ∧ ss + 0 ≤ 7302250) ∧ ∃ Q273 : Int → Sto → Prop, K_Cg_value 0 2 s266 Q273 ∧ ∀ r276 s275, Q273 r276 s275 → ((-2147483648 ≤ r276 ∧ r276 < 2147483648) ∧ -2147483648 ≤ r261 ∧ r261 < 2147483648) ∧ ((r276 = r261) → H_La_law_416 0 cs ss Q x3 x4 x5 r225 r231 0 s275) ∧ ((¬ r276 = r261) → (cs + 0 ≤ 600000 ∧ ss + 0 ≤ 7302250) ∧ Q 0 s275)))) ∧ (-2147483648 ≤ r237 ∧ r237 < 2147483648) ∧ ((¬ r237 = 0) → J247) ∧ ((r237 = 0) → (-2147483648 ≤ x4 ∧ x4 < 2147483648) ∧ ((x4 ≤ 0) → J247) ∧ ((0 < x4) → (cs + 0 ≤ 600000 ∧ ss + 0 ≤ 7302250) ∧ ∃ Q286 : Int → Sto → Prop, K_La_low 0 (ishr r225 4) x4 s236 Q286 ∧ ∀ r289 s288, Q286 r289 s288 → (cs + 0 ≤ 600000 ∧ ss + 0 ≤ 7302250) ∧ ∃ Q292 : Int → Sto → Prop, K_Cg_removeEdge 0 r289 s288 Q292 ∧ ∀ r295 s294, Q292 r295 s294 → ((-2147483648 ≤ r295 ∧ r295 < 2147483648) ∧ -2147483648 ≤ (x4 - 1) ∧ (x4 - 1) < 2147483648) ∧ ((r295 = (x4 - 1)) → H_La_law_416 0 cs ss Q x3 (x4 - 1) x5 r225 r231 0 s294) ∧ ((¬ r295 = (x4 - 1)) → (cs + 0 ≤ 600000 ∧ ss + 0 ≤ 7302250) ∧ Q 0 s294))))) : H_La_law_287 0 cs ss Q x3 x4 x5 s := by
  refine g_iload (npc := 289) dL_law_287 rfl rfl ?_
  refine g_bipush (npc := 291) (x := 8) dL_law_289 rfl (by decide) ?_
  obtain ⟨h212, hTt, hTf⟩ := hT
  refine g_icmp_ge (npc := 294) (tgt := 650) dL_law_291 rfl (by decide) ⟨h212, by decide, by decide⟩ (fun c213 => ?_) (fun c213 => ?_)
  · replace hT := hTt c213
    refine g_aload_n (npc := 651) dL_law_650 rfl rfl rfl ?_
    obtain ⟨h219, hT⟩ := hT
    obtain ⟨Q214, h215, hT⟩ := hT
    refine iv_La_156 (npc := 654) dL_law_651 rfl rfl (Nat.le_of_ble_eq_true rfl) (by decide) h219 h215 (fun r217 s216 e218 => ?_)
    replace hT := hT r217 s216 e218
    obtain ⟨h220, hT⟩ := hT
    obtain ⟨h221, hT⟩ := hT
    exact g_iret dL_law_654 rfl (nar_zv h221) h220 ⟨_, rfl, hT⟩
  · replace hT := hTf (Int.not_le.mp c213)
    refine g_aload_n (npc := 295) dL_law_294 rfl rfl rfl ?_
    refine g_bipush (npc := 297) (x := 15) dL_law_295 rfl (by decide) ?_
    refine g_iconst (npc := 298) dL_law_297 rfl ?_
    refine g_iload (npc := 300) dL_law_298 rfl rfl ?_
    refine g_imul (npc := 301) dL_law_300 rfl ?_
    refine g_iadd (npc := 302) dL_law_301 rfl ?_
    obtain ⟨h227, hT⟩ := hT
    obtain ⟨Q222, h223, hT⟩ := hT
    refine iv_La_135 (npc := 305) dL_law_302 rfl rfl (Nat.le_of_ble_eq_true rfl) (by decide) h227 h223 (fun r225 s224 e226 => ?_)
    replace hT := hT r225 s224 e226
    refine g_istore (npc := 307) (l' := [(0, .ref 2000), (1, .ref 0), (3, iV x3), (4, iV x4), (5, iV x5), (6, iV r225)]) dL_law_305 rfl (by decide) rfl ?_
    refine g_aload_n (npc := 308) dL_law_307 rfl rfl rfl ?_
    refine g_bipush (npc := 310) (x := 16) dL_law_308 rfl (by decide) ?_
    refine g_iconst (npc := 311) dL_law_310 rfl ?_
    refine g_iload (npc := 313) dL_law_311 rfl rfl ?_
    refine g_imul (npc := 314) dL_law_313 rfl ?_
    refine g_iadd (npc := 315) dL_law_314 rfl ?_
    obtain ⟨h233, hT⟩ := hT
    obtain ⟨Q228, h229, hT⟩ := hT
    refine iv_La_135 (npc := 318) dL_law_315 rfl rfl (Nat.le_of_ble_eq_true rfl) (by decide) h233 h229 (fun r231 s230 e232 => ?_)
    replace hT := hT r231 s230 e232
    refine g_istore (npc := 320) (l' := [(0, .ref 2000), (1, .ref 0), (3, iV x3), (4, iV x4), (5, iV x5), (6, iV r225), (7, iV r231)]) dL_law_318 rfl (by decide) rfl ?_
    refine g_iload (npc := 322) dL_law_320 rfl rfl ?_
    refine g_bipush (npc := 324) (x := 8) dL_law_322 rfl (by decide) ?_
    obtain ⟨h239, hT⟩ := hT
    obtain ⟨Q234, h235, hT⟩ := hT
    refine iv_La_139 (npc := 327) dL_law_324 rfl rfl (Nat.le_of_ble_eq_true rfl) (by decide) h239 h235 (fun r237 s236 e238 => ?_)
    replace hT := hT r237 s236 e238
    refine g_istore (npc := 329) (l' := [(0, .ref 2000), (1, .ref 0), (3, iV x3), (4, iV x4), (5, iV x5), (6, iV r225), (7, iV r231), (8, iV r237)]) dL_law_327 rfl (by decide) rfl ?_
    refine g_iload (npc := 331) dL_law_329 rfl rfl ?_
    obtain ⟨J247, hT⟩ := hT
    obtain ⟨hj282, hT⟩ := hT
    have K283 : J247 → Go (SL 0) M_La_law (fI Q) cs ss 367 [(0, .ref 2000), (1, .ref 0), (3, iV x3), (4, iV x4), (5, iV x5), (6, iV r225), (7, iV r231), (8, iV r237)] [] s236 := by
      intro  q301
      replace hT := hj282  q301
      refine g_iload (npc := 369) dL_law_367 rfl rfl ?_
      refine g_iconst (npc := 370) dL_law_369 rfl ?_
      obtain ⟨h250, hTt, hTf⟩ := hT
      refine g_icmp_ne (npc := 373) (tgt := 413) dL_law_370 rfl (by decide) ⟨h250, by decide, by decide⟩ (fun c251 => ?_) (fun c251 => ?_)
      · replace hT := hTt c251
        refine g_iconst (npc := 414) dL_law_413 rfl ?_
        refine g_istore (npc := 416) (l' := [(0, .ref 2000), (1, .ref 0), (3, iV x3), (4, iV x4), (5, iV x5), (6, iV r225), (7, iV r231), (8, iV r237), (9, iV 0)]) dL_law_414 rfl (by decide) rfl ?_
        refine Go.lsub [0, 1, 2, 3, 4, 5, 6, 8] rfl ?_
        exact hT
      · replace hT := hTf (Decidable.not_not.mp c251)
        refine g_aload_n (npc := 374) dL_law_373 rfl rfl rfl ?_
        refine g_iconst (npc := 375) dL_law_374 rfl ?_
        obtain ⟨h257, hT⟩ := hT
        obtain ⟨Q252, h253, hT⟩ := hT
        refine iv_La_9 (npc := 378) dL_law_375 rfl rfl (Nat.le_of_ble_eq_true rfl) (by decide) h257 h253 (fun r255 s254 e256 => ?_)
        replace hT := hT r255 s254 e256
        refine g_istore (npc := 380) (l' := [(0, .ref 2000), (1, .ref 0), (3, iV x3), (4, iV x4), (5, iV x5), (6, iV r225), (7, iV r231), (8, iV r237), (9, iV r255)]) dL_law_378 rfl (by decide) rfl ?_
        refine g_iload (npc := 382) dL_law_380 rfl rfl ?_
        refine g_iconst (npc := 383) dL_law_382 rfl ?_
        refine g_ishr (npc := 384) dL_law_383 rfl ?_
        refine g_iload_n (npc := 385) dL_law_384 rfl rfl rfl ?_
        obtain ⟨h263, hT⟩ := hT
        obtain ⟨Q258, h259, hT⟩ := hT
        refine iv_La_139 (npc := 388) dL_law_385 rfl rfl (Nat.le_of_ble_eq_true rfl) (by decide) h263 h259 (fun r261 s260 e262 => ?_)
        replace hT := hT r261 s260 e262
        refine g_istore (npc := 390) (l' := [(0, .ref 2000), (1, .ref 0), (3, iV x3), (4, iV x4), (5, iV x5), (6, iV r225), (7, iV r231), (8, iV r237), (9, iV r255), (10, iV r261)]) dL_law_388 rfl (by decide) rfl ?_
        refine g_aload_n (npc := 391) dL_law_390 rfl rfl rfl ?_
        refine g_iload (npc := 393) dL_law_391 rfl rfl ?_
        obtain ⟨h269, hT⟩ := hT
        obtain ⟨Q264, h265, hT⟩ := hT
        refine iv_La_125 (npc := 396) dL_law_393 rfl rfl (Nat.le_of_ble_eq_true rfl) (by decide) h269 h265 (fun r267 s266 e268 => ?_)
        replace hT := hT r267 s266 e268
        refine g_iload (npc := 398) dL_law_396 rfl rfl ?_
        obtain ⟨h270, hTt, hTf⟩ := hT
        refine g_icmp_ne (npc := 401) (tgt := 411) dL_law_398 rfl (by decide) h270 (fun c271 => ?_) (fun c271 => ?_)
        · replace hT := hTt c271
          refine g_iconst (npc := 412) dL_law_411 rfl ?_
          obtain ⟨h272, hT⟩ := hT
          exact g_iret dL_law_412 rfl (by decide) h272 ⟨_, rfl, hT⟩
        · replace hT := hTf (Decidable.not_not.mp c271)
          refine g_aload_n (npc := 402) dL_law_401 rfl rfl rfl ?_
          refine g_iconst (npc := 403) dL_law_402 rfl ?_
          obtain ⟨h278, hT⟩ := hT
          obtain ⟨Q273, h274, hT⟩ := hT
          refine iv_La_9 (npc := 406) dL_law_403 rfl rfl (Nat.le_of_ble_eq_true rfl) (by decide) h278 h274 (fun r276 s275 e277 => ?_)
          replace hT := hT r276 s275 e277
          refine g_iload (npc := 408) dL_law_406 rfl rfl ?_
          obtain ⟨h279, hTt, hTf⟩ := hT
          refine g_icmp_eq (npc := 411) (tgt := 413) dL_law_408 rfl (by decide) h279 (fun c280 => ?_) (fun c280 => ?_)
          · replace hT := hTt c280
            refine g_iconst (npc := 414) dL_law_413 rfl ?_
            refine g_istore (npc := 416) (l' := [(0, .ref 2000), (1, .ref 0), (3, iV x3), (4, iV x4), (5, iV x5), (6, iV r225), (7, iV r231), (8, iV r237), (9, iV 0), (10, iV r261)]) dL_law_414 rfl (by decide) rfl ?_
            refine Go.lsub [0, 1, 2, 3, 4, 5, 6, 8] rfl ?_
            exact hT
          · replace hT := hTf c280
            refine g_iconst (npc := 412) dL_law_411 rfl ?_
            obtain ⟨h281, hT⟩ := hT
            exact g_iret dL_law_412 rfl (by decide) h281 ⟨_, rfl, hT⟩
    obtain ⟨h248, hTt, hTf⟩ := hT
    refine g_if_ne (npc := 334) (tgt := 367) dL_law_331 rfl (by decide) h248 (fun c249 => ?_) (fun c249 => ?_)
    · replace hT := hTt c249
      exact K283  hT
    · replace hT := hTf (Decidable.not_not.mp c249)
      refine g_iload (npc := 336) dL_law_334 rfl rfl ?_
      obtain ⟨h284, hTt, hTf⟩ := hT
      refine g_if_le (npc := 339) (tgt := 367) dL_law_336 rfl (by decide) h284 (fun c285 => ?_) (fun c285 => ?_)
      · replace hT := hTt c285
        exact K283  hT
      · replace hT := hTf (Int.not_le.mp c285)
        refine g_aload_n (npc := 340) dL_law_339 rfl rfl rfl ?_
        refine g_iload (npc := 342) dL_law_340 rfl rfl ?_
        refine g_iconst (npc := 343) dL_law_342 rfl ?_
        refine g_ishr (npc := 344) dL_law_343 rfl ?_
        refine g_iload (npc := 346) dL_law_344 rfl rfl ?_
        obtain ⟨h291, hT⟩ := hT
        obtain ⟨Q286, h287, hT⟩ := hT
        refine iv_La_139 (npc := 349) dL_law_346 rfl rfl (Nat.le_of_ble_eq_true rfl) (by decide) h291 h287 (fun r289 s288 e290 => ?_)
        replace hT := hT r289 s288 e290
        obtain ⟨h297, hT⟩ := hT
        obtain ⟨Q292, h293, hT⟩ := hT
        refine iv_La_122 (npc := 352) dL_law_349 rfl rfl (Nat.le_of_ble_eq_true rfl) (by decide) h297 h293 (fun r295 s294 e296 => ?_)
        replace hT := hT r295 s294 e296
        refine g_iload (npc := 354) dL_law_352 rfl rfl ?_
        refine g_iconst (npc := 355) dL_law_354 rfl ?_
        refine g_isub (npc := 356) dL_law_355 rfl ?_
        obtain ⟨h298, hTt, hTf⟩ := hT
        refine g_icmp_eq (npc := 359) (tgt := 361) dL_law_356 rfl (by decide) h298 (fun c299 => ?_) (fun c299 => ?_)
        · replace hT := hTt c299
          refine g_iinc (npc := 364) (y := (x4 - 1)) (l' := [(0, .ref 2000), (1, .ref 0), (3, iV x3), (4, iV (x4 - 1)), (5, iV x5), (6, iV r225), (7, iV r231), (8, iV r237)]) dL_law_361 rfl (by decide) rfl (by omega) rfl ?_
          refine g_goto (npc := 413) dL_law_364 (by decide) ?_
          refine g_iconst (npc := 414) dL_law_413 rfl ?_
          refine g_istore (npc := 416) (l' := [(0, .ref 2000), (1, .ref 0), (3, iV x3), (4, iV (x4 - 1)), (5, iV x5), (6, iV r225), (7, iV r231), (8, iV r237), (9, iV 0)]) dL_law_414 rfl (by decide) rfl ?_
          refine Go.lsub [0, 1, 2, 3, 4, 5, 6, 8] rfl ?_
          exact hT
        · replace hT := hTf c299
          refine g_iconst (npc := 360) dL_law_359 rfl ?_
          obtain ⟨h300, hT⟩ := hT
          exact g_iret dL_law_360 rfl (by decide) h300 ⟨_, rfl, hT⟩
set_option maxRecDepth 20000 in
theorem b_La_law_416 {cs ss : Nat} {Q : Int → Sto → Prop} {x3 : Int} {x4 : Int} {x5 : Int} {x6 : Int} {x7 : Int} {x9 : Int} {s : Sto} (hT : ((-2147483648 ≤ x9 ∧ x9 < 2147483648) ∧ -2147483648 ≤ x3 ∧ x3 < 2147483648) ∧ ((x3 ≤ x9) → (cs + 0 ≤ 600000 ∧ ss + 0 ≤ 7302250) ∧ ∃ Q304 : Int → Sto → Prop, K_La_burning 0 s Q304 ∧ ∀ r307 s306, Q304 r307 s306 → (-2147483648 ≤ r307 ∧ r307 < 2147483648) ∧ ((r307 = 0) → (cs + 0 ≤ 600000 ∧ ss + 0 ≤ 7302250) ∧ Q 0 s306) ∧ ((¬ r307 = 0) → (cs + 4 ≤ 600000 ∧ ss + 32 ≤ 7302250) ∧ ∃ Q313 : Int → Sto → Prop, K_La_settles 0 (ishr x6 3) s306 Q313 ∧ ∀ r316 s315, Q313 r316 s315 → (-2147483648 ≤ r316 ∧ r316 < 2147483648) ∧ ((¬ r316 = 0) → (cs + 4 ≤ 600000 ∧ ss + 32 ≤ 7302250) ∧ ∃ Q321 : Int → Sto → Prop, K_Cg_value 0 3 s315 Q321 ∧ ∀ r324 s323, Q321 r324 s323 → ∃ J333 : Sto → Prop, (∀ s332, J333 s332 → (cs + 7 ≤ 600000 ∧ ss + 56 ≤ 7302250) ∧ ∃ Q336 : Int → Sto → Prop, K_Cg_value 0 5 s332 Q336 ∧ ∀ r339 s338, Q336 r339 s338 → (cs + 7 ≤ 600000 ∧ ss + 56 ≤ 7302250) ∧ ∃ Q342 : Int → Sto → Prop, K_Cg_value 0 4 s338 Q342 ∧ ∀ r345 s344, Q342 r345 s344 → (cs + 7 ≤ 600000 ∧ ss + 56 ≤ 7302250) ∧ ∃ Q348 : Int → Sto → Prop, K_Cg_value 0 2 s344 Q348 ∧ ∀ r351 s350, Q348 r351 s350 → ∃ J355 : Int → Prop, (∀ v354, J355 v354 → (cs + 7 ≤ 600000 ∧ ss + 56 ≤ 7302250) ∧ ∃ Q358 : Int → Sto → Prop, K_Cg_chips 0 v354 s350 Q358 ∧ ∀ r361 s360, Q358 r361 s360 → (cs + 7 ≤ 600000 ∧ ss + 56 ≤ 7302250) ∧ ∃ Q364 : Int → Sto → Prop, K_Cg_setChips 0 v354 77 s360 Q364 ∧ ∀ r367 s366, Q364 r367 s366 → ((-2147483648 ≤ r367 ∧ r367 < 2147483648) ∧ -2147483648 ≤ r361 ∧ r361 < 2147483648) ∧ ((¬ r367 = r361) → (cs + 7 ≤ 600000 ∧ ss + 56 ≤ 7302250) ∧ Q 0 s366) ∧ ((r367 = r361) → (cs + 7 ≤ 600000 ∧ ss + 56 ≤ 7302250) ∧ ∃ Q373 : Int → Sto → Prop, K_Cg_value 0 5 s366 Q373 ∧ ∀ r376 s375, Q373 r376 s375 → ∃ J381 : Int → Prop, (∀ v380, J381 v380 → ((-2147483648 ≤ r376 ∧ r376 < 2147483648) ∧ -2147483648 ≤ v380 ∧ v380 < 2147483648) ∧ ((¬ r376 = v380) → (cs + 7 ≤ 600000 ∧ ss + 56 ≤ 7302250) ∧ Q 0 s375) ∧ ((r376 = v380) → (cs + 7 ≤ 600000 ∧ ss + 56 ≤ 7302250) ∧ ∃ Q387 : Int → Sto → Prop, K_Cg_undo 0 s375 Q387 ∧ ∀ r390 s389, Q387 r390 s389 → ∃ J394 : Int → Prop, (∀ v393, J394 v393 → ((-2147483648 ≤ r390 ∧ r390 < 2147483648) ∧ -2147483648 ≤ v393 ∧ v393 < 2147483648) ∧ ((¬ r390 = v393) → (cs + 7 ≤ 600000 ∧ ss + 56 ≤ 7302250) ∧ Q 0 s389) ∧ ((r390 = v393) → (cs + 7 ≤ 600000 ∧ ss + 56 ≤ 7302250) ∧ ∃ Q400 : Int → Sto → Prop, K_Cg_chips 0 v354 s389 Q400 ∧ ∀ r403 s402, Q400 r403 s402 → ((-2147483648 ≤ r403 ∧ r403 < 2147483648) ∧ -2147483648 ≤ r361 ∧ r361 < 2147483648) ∧ ((¬ r403 = r361) → (cs + 7 ≤ 600000 ∧ ss + 56 ≤ 7302250) ∧ Q 0 s402) ∧ ((r403 = r361) → (cs + 7 ≤ 600000 ∧ ss + 56 ≤ 7302250) ∧ ∃ Q409 : Int → Sto → Prop, K_Cg_value 0 4 s402 Q409 ∧ ∀ r412 s411, Q409 r412 s411 → ((-2147483648 ≤ r412 ∧ r412 < 2147483648) ∧ -2147483648 ≤ r345 ∧ r345 < 2147483648) ∧ ((r412 = r345) → H_La_law_287 0 (cs + 7) (ss + 56) Q x3 x4 (x5 + 1) s411) ∧ ((¬ r412 = r345) → (cs + 7 ≤ 600000 ∧ ss + 56 ≤ 7302250) ∧ Q 0 s411)))) ∧ (-2147483648 ≤ r339 ∧ r339 < 2147483648) ∧ ((12 ≤ r339) → J394 11) ∧ ((r339 < 12) → J394 r339))) ∧ (-2147483648 ≤ r339 ∧ r339 < 2147483648) ∧ ((12 ≤ r339) → J381 12) ∧ ((r339 < 12) → J381 (r339 + 1)))) ∧ (-2147483648 ≤ r351 ∧ r351 < 2147483648) ∧ ((¬ r351 = 0) → J355 0) ∧ ((r351 = 0) → J355 1)) ∧ (-2147483648 ≤ r324 ∧ r324 < 2147483648) ∧ ((¬ r324 = 1) → J333 s323) ∧ ((r324 = 1) → (cs + 7 ≤ 600000 ∧ ss + 56 ≤ 7302250) ∧ ∃ Q429 : Int → Sto → Prop, K_La_classes 0 s323 Q429 ∧ ∀ r432 s431, Q429 r432 s431 → (-2147483648 ≤ r432 ∧ r432 < 2147483648) ∧ ((r432 = 0) → (cs + 7 ≤ 600000 ∧ ss + 56 ≤ 7302250) ∧ Q 0 s431) ∧ ((¬ r432 = 0) → (-2147483648 ≤ x5 ∧ x5 < 2147483648) ∧ (-2147483648 ≤ (Int.tmod x5 3) ∧ (Int.tmod x5 3) < 2147483648) ∧ ((¬ (Int.tmod x5 3) = 0) → J333 s431) ∧ (((Int.tmod x5 3) = 0) → (cs + 7 ≤ 600000 ∧ ss + 56 ≤ 7302250) ∧ ∃ Q441 : Int → Sto → Prop, K_La_group 0 s431 Q441 ∧ ∀ r444 s443, Q441 r444 s443 → (-2147483648 ≤ r444 ∧ r444 < 2147483648) ∧ ((¬ r444 = 0) → J333 s443) ∧ ((r444 = 0) → (cs + 7 ≤ 600000 ∧ ss + 56 ≤ 7302250) ∧ Q 0 s443))))) ∧ ((r316 = 0) → (cs + 4 ≤ 600000 ∧ ss + 32 ≤ 7302250) ∧ Q 0 s315))) ∧ ((x9 < x3) → (cs + 0 ≤ 600000 ∧ ss + 0 ≤ 7302250) ∧ ∃ Q452 : Int → Sto → Prop, K_Cg_value 0 2 s Q452 ∧ ∀ r455 s454, Q452 r455 s454 → ((-2147483648 ≤ x9 ∧ x9 < 2147483648) ∧ -2147483648 ≤ r455 ∧ r455 < 2147483648) ∧ ((x9 = r455) → H_La_law_416 0 cs ss Q x3 x4 x5 x6 x7 (x9 + 1) s454) ∧ ((¬ x9 = r455) → (cs + 0 ≤ 600000 ∧ ss + 0 ≤ 7302250) ∧ ∃ Q460 : Int → Sto → Prop, K_La_low 0 (ishr x6 6) 4 s454 Q460 ∧ ∀ r463 s462, Q460 r463 s462 → (-2147483648 ≤ r463 ∧ r463 < 2147483648) ∧ ((¬ r463 = 0) → (cs + 0 ≤ 600000 ∧ ss + 0 ≤ 7302250) ∧ ∃ Q468 : Int → Sto → Prop, K_La_low 0 (ishr x7 (3 * x9)) 8 s462 Q468 ∧ ∀ r471 s470, Q468 r471 s470 → (cs + 0 ≤ 600000 ∧ ss + 0 ≤ 7302250) ∧ ∃ Q474 : Int → Sto → Prop, K_Cg_setChips 0 x9 r471 s470 Q474 ∧ ∀ r477 s476, Q474 r477 s476 → H_La_law_416 0 cs ss Q x3 x4 x5 x6 x7 (x9 + 1) s476) ∧ ((r463 = 0) → (cs + 0 ≤ 600000 ∧ ss + 0 ≤ 7302250) ∧ ∃ Q480 : Int → Sto → Prop, K_La_low 0 (ishr x7 (3 * x9)) 30 s462 Q480 ∧ ∀ r483 s482, Q480 r483 s482 → (cs + 0 ≤ 600000 ∧ ss + 0 ≤ 7302250) ∧ ∃ Q486 : Int → Sto → Prop, K_Cg_setChips 0 x9 r483 s482 Q486 ∧ ∀ r489 s488, Q486 r489 s488 → H_La_law_416 0 cs ss Q x3 x4 x5 x6 x7 (x9 + 1) s488)))) : H_La_law_416 0 cs ss Q x3 x4 x5 x6 x7 x9 s := by
  refine g_iload (npc := 418) dL_law_416 rfl rfl ?_
  refine g_iload_n (npc := 419) dL_law_418 rfl rfl rfl ?_
  obtain ⟨h302, hTt, hTf⟩ := hT
  refine g_icmp_ge (npc := 422) (tgt := 474) dL_law_419 rfl (by decide) h302 (fun c303 => ?_) (fun c303 => ?_)
  · replace hT := hTt c303
    refine g_aload_n (npc := 475) dL_law_474 rfl rfl rfl ?_
    obtain ⟨h309, hT⟩ := hT
    obtain ⟨Q304, h305, hT⟩ := hT
    refine iv_La_142 (npc := 478) dL_law_475 rfl rfl (Nat.le_of_ble_eq_true rfl) (by decide) h309 h305 (fun r307 s306 e308 => ?_)
    replace hT := hT r307 s306 e308
    obtain ⟨h310, hTt, hTf⟩ := hT
    refine g_if_eq (npc := 481) (tgt := 492) dL_law_478 rfl (by decide) h310 (fun c311 => ?_) (fun c311 => ?_)
    · replace hT := hTt c311
      refine g_iconst (npc := 493) dL_law_492 rfl ?_
      obtain ⟨h312, hT⟩ := hT
      exact g_iret dL_law_493 rfl (by decide) h312 ⟨_, rfl, hT⟩
    · replace hT := hTf c311
      refine g_aload_n (npc := 482) dL_law_481 rfl rfl rfl ?_
      refine g_iload (npc := 484) dL_law_482 rfl rfl ?_
      refine g_iconst (npc := 485) dL_law_484 rfl ?_
      refine g_ishr (npc := 486) dL_law_485 rfl ?_
      obtain ⟨h318, hT⟩ := hT
      obtain ⟨Q313, h314, hT⟩ := hT
      refine iv_La_146 (npc := 489) dL_law_486 rfl rfl (Nat.le_of_ble_eq_true rfl) (by decide) h318 h314 (fun r316 s315 e317 => ?_)
      replace hT := hT r316 s315 e317
      obtain ⟨h319, hTt, hTf⟩ := hT
      refine g_if_ne (npc := 492) (tgt := 494) dL_law_489 rfl (by decide) h319 (fun c320 => ?_) (fun c320 => ?_)
      · replace hT := hTt c320
        refine g_aload_n (npc := 495) dL_law_494 rfl rfl rfl ?_
        refine g_iconst (npc := 496) dL_law_495 rfl ?_
        obtain ⟨h326, hT⟩ := hT
        obtain ⟨Q321, h322, hT⟩ := hT
        refine iv_La_9 (npc := 499) dL_law_496 rfl rfl (Nat.le_of_ble_eq_true rfl) (by decide) h326 h322 (fun r324 s323 e325 => ?_)
        replace hT := hT r324 s323 e325
        refine g_iconst (npc := 500) dL_law_499 rfl ?_
        obtain ⟨J333, hT⟩ := hT
        obtain ⟨hj427, hT⟩ := hT
        have K428 : ∀ (s332 : Sto), J333 s332 → Go (SL 0) M_La_law (fI Q) (cs + 7) (ss + 56) 526 [(0, .ref 2000), (1, .ref 0), (3, iV x3), (4, iV x4), (5, iV x5)] [] s332 := by
          intro s332 q450
          replace hT := hj427 s332 q450
          refine g_aload_n (npc := 527) dL_law_526 rfl rfl rfl ?_
          refine g_iconst (npc := 528) dL_law_527 rfl ?_
          obtain ⟨h341, hT⟩ := hT
          obtain ⟨Q336, h337, hT⟩ := hT
          refine iv_La_9 (npc := 531) dL_law_528 rfl rfl (Nat.le_of_ble_eq_true rfl) (by decide) h341 h337 (fun r339 s338 e340 => ?_)
          replace hT := hT r339 s338 e340
          refine g_istore (npc := 533) (l' := [(0, .ref 2000), (1, .ref 0), (3, iV x3), (4, iV x4), (5, iV x5), (9, iV r339)]) dL_law_531 rfl (by decide) rfl ?_
          refine g_aload_n (npc := 534) dL_law_533 rfl rfl rfl ?_
          refine g_iconst (npc := 535) dL_law_534 rfl ?_
          obtain ⟨h347, hT⟩ := hT
          obtain ⟨Q342, h343, hT⟩ := hT
          refine iv_La_9 (npc := 538) dL_law_535 rfl rfl (Nat.le_of_ble_eq_true rfl) (by decide) h347 h343 (fun r345 s344 e346 => ?_)
          replace hT := hT r345 s344 e346
          refine g_istore (npc := 540) (l' := [(0, .ref 2000), (1, .ref 0), (3, iV x3), (4, iV x4), (5, iV x5), (9, iV r339), (10, iV r345)]) dL_law_538 rfl (by decide) rfl ?_
          refine g_aload_n (npc := 541) dL_law_540 rfl rfl rfl ?_
          refine g_iconst (npc := 542) dL_law_541 rfl ?_
          obtain ⟨h353, hT⟩ := hT
          obtain ⟨Q348, h349, hT⟩ := hT
          refine iv_La_9 (npc := 545) dL_law_542 rfl rfl (Nat.le_of_ble_eq_true rfl) (by decide) h353 h349 (fun r351 s350 e352 => ?_)
          replace hT := hT r351 s350 e352
          obtain ⟨J355, hT⟩ := hT
          obtain ⟨hj424, hT⟩ := hT
          have K425 : ∀ (v354 : Int), J355 v354 → Go (SL 0) M_La_law (fI Q) (cs + 7) (ss + 56) 553 [(0, .ref 2000), (1, .ref 0), (3, iV x3), (4, iV x4), (5, iV x5), (9, iV r339), (10, iV r345)] [iV v354] s350 := by
            intro v354 q426
            replace hT := hj424 v354 q426
            refine g_istore (npc := 555) (l' := [(0, .ref 2000), (1, .ref 0), (3, iV x3), (4, iV x4), (5, iV x5), (9, iV r339), (10, iV r345), (11, iV v354)]) dL_law_553 rfl (by decide) rfl ?_
            refine g_aload_n (npc := 556) dL_law_555 rfl rfl rfl ?_
            refine g_iload (npc := 558) dL_law_556 rfl rfl ?_
            obtain ⟨h363, hT⟩ := hT
            obtain ⟨Q358, h359, hT⟩ := hT
            refine iv_La_19 (npc := 561) dL_law_558 rfl rfl (Nat.le_of_ble_eq_true rfl) (by decide) h363 h359 (fun r361 s360 e362 => ?_)
            replace hT := hT r361 s360 e362
            refine g_istore (npc := 563) (l' := [(0, .ref 2000), (1, .ref 0), (3, iV x3), (4, iV x4), (5, iV x5), (9, iV r339), (10, iV r345), (11, iV v354), (12, iV r361)]) dL_law_561 rfl (by decide) rfl ?_
            refine g_aload_n (npc := 564) dL_law_563 rfl rfl rfl ?_
            refine g_iload (npc := 566) dL_law_564 rfl rfl ?_
            refine g_bipush (npc := 568) (x := 77) dL_law_566 rfl (by decide) ?_
            obtain ⟨h369, hT⟩ := hT
            obtain ⟨Q364, h365, hT⟩ := hT
            refine iv_La_22 (npc := 571) dL_law_568 rfl rfl (Nat.le_of_ble_eq_true rfl) (by decide) h369 h365 (fun r367 s366 e368 => ?_)
            replace hT := hT r367 s366 e368
            refine g_iload (npc := 573) dL_law_571 rfl rfl ?_
            obtain ⟨h370, hTt, hTf⟩ := hT
            refine g_icmp_ne (npc := 576) (tgt := 642) dL_law_573 rfl (by decide) h370 (fun c371 => ?_) (fun c371 => ?_)
            · replace hT := hTt c371
              refine g_iconst (npc := 643) dL_law_642 rfl ?_
              obtain ⟨h372, hT⟩ := hT
              exact g_iret dL_law_643 rfl (by decide) h372 ⟨_, rfl, hT⟩
            · replace hT := hTf (Decidable.not_not.mp c371)
              refine g_aload_n (npc := 577) dL_law_576 rfl rfl rfl ?_
              refine g_iconst (npc := 578) dL_law_577 rfl ?_
              obtain ⟨h378, hT⟩ := hT
              obtain ⟨Q373, h374, hT⟩ := hT
              refine iv_La_9 (npc := 581) dL_law_578 rfl rfl (Nat.le_of_ble_eq_true rfl) (by decide) h378 h374 (fun r376 s375 e377 => ?_)
              replace hT := hT r376 s375 e377
              refine g_iload (npc := 583) dL_law_581 rfl rfl ?_
              refine g_bipush (npc := 585) (x := 12) dL_law_583 rfl (by decide) ?_
              obtain ⟨J381, hT⟩ := hT
              obtain ⟨hj421, hT⟩ := hT
              have K422 : ∀ (v380 : Int), J381 v380 → Go (SL 0) M_La_law (fI Q) (cs + 7) (ss + 56) 597 [(0, .ref 2000), (1, .ref 0), (3, iV x3), (4, iV x4), (5, iV x5), (9, iV r339), (10, iV r345), (11, iV v354), (12, iV r361)] [iV v380, iV r376] s375 := by
                intro v380 q423
                replace hT := hj421 v380 q423
                obtain ⟨h384, hTt, hTf⟩ := hT
                refine g_icmp_ne (npc := 600) (tgt := 642) dL_law_597 rfl (by decide) h384 (fun c385 => ?_) (fun c385 => ?_)
                · replace hT := hTt c385
                  refine g_iconst (npc := 643) dL_law_642 rfl ?_
                  obtain ⟨h386, hT⟩ := hT
                  exact g_iret dL_law_643 rfl (by decide) h386 ⟨_, rfl, hT⟩
                · replace hT := hTf (Decidable.not_not.mp c385)
                  refine g_aload_n (npc := 601) dL_law_600 rfl rfl rfl ?_
                  obtain ⟨h392, hT⟩ := hT
                  obtain ⟨Q387, h388, hT⟩ := hT
                  refine iv_La_132 (npc := 604) dL_law_601 rfl rfl (Nat.le_of_ble_eq_true rfl) (by decide) h392 h388 (fun r390 s389 e391 => ?_)
                  replace hT := hT r390 s389 e391
                  refine g_iload (npc := 606) dL_law_604 rfl rfl ?_
                  refine g_bipush (npc := 608) (x := 12) dL_law_606 rfl (by decide) ?_
                  obtain ⟨J394, hT⟩ := hT
                  obtain ⟨hj418, hT⟩ := hT
                  have K419 : ∀ (v393 : Int), J394 v393 → Go (SL 0) M_La_law (fI Q) (cs + 7) (ss + 56) 618 [(0, .ref 2000), (1, .ref 0), (3, iV x3), (4, iV x4), (5, iV x5), (10, iV r345), (11, iV v354), (12, iV r361)] [iV v393, iV r390] s389 := by
                    intro v393 q420
                    replace hT := hj418 v393 q420
                    obtain ⟨h397, hTt, hTf⟩ := hT
                    refine g_icmp_ne (npc := 621) (tgt := 642) dL_law_618 rfl (by decide) h397 (fun c398 => ?_) (fun c398 => ?_)
                    · replace hT := hTt c398
                      refine g_iconst (npc := 643) dL_law_642 rfl ?_
                      obtain ⟨h399, hT⟩ := hT
                      exact g_iret dL_law_643 rfl (by decide) h399 ⟨_, rfl, hT⟩
                    · replace hT := hTf (Decidable.not_not.mp c398)
                      refine g_aload_n (npc := 622) dL_law_621 rfl rfl rfl ?_
                      refine g_iload (npc := 624) dL_law_622 rfl rfl ?_
                      obtain ⟨h405, hT⟩ := hT
                      obtain ⟨Q400, h401, hT⟩ := hT
                      refine iv_La_19 (npc := 627) dL_law_624 rfl rfl (Nat.le_of_ble_eq_true rfl) (by decide) h405 h401 (fun r403 s402 e404 => ?_)
                      replace hT := hT r403 s402 e404
                      refine g_iload (npc := 629) dL_law_627 rfl rfl ?_
                      obtain ⟨h406, hTt, hTf⟩ := hT
                      refine g_icmp_ne (npc := 632) (tgt := 642) dL_law_629 rfl (by decide) h406 (fun c407 => ?_) (fun c407 => ?_)
                      · replace hT := hTt c407
                        refine g_iconst (npc := 643) dL_law_642 rfl ?_
                        obtain ⟨h408, hT⟩ := hT
                        exact g_iret dL_law_643 rfl (by decide) h408 ⟨_, rfl, hT⟩
                      · replace hT := hTf (Decidable.not_not.mp c407)
                        refine g_aload_n (npc := 633) dL_law_632 rfl rfl rfl ?_
                        refine g_iconst (npc := 634) dL_law_633 rfl ?_
                        obtain ⟨h414, hT⟩ := hT
                        obtain ⟨Q409, h410, hT⟩ := hT
                        refine iv_La_9 (npc := 637) dL_law_634 rfl rfl (Nat.le_of_ble_eq_true rfl) (by decide) h414 h410 (fun r412 s411 e413 => ?_)
                        replace hT := hT r412 s411 e413
                        refine g_iload (npc := 639) dL_law_637 rfl rfl ?_
                        obtain ⟨h415, hTt, hTf⟩ := hT
                        refine g_icmp_eq (npc := 642) (tgt := 644) dL_law_639 rfl (by decide) h415 (fun c416 => ?_) (fun c416 => ?_)
                        · replace hT := hTt c416
                          refine g_iinc (npc := 647) (y := (x5 + 1)) (l' := [(0, .ref 2000), (1, .ref 0), (3, iV x3), (4, iV x4), (5, iV (x5 + 1)), (10, iV r345), (11, iV v354), (12, iV r361)]) dL_law_644 rfl (by decide) rfl (by omega) rfl ?_
                          refine g_goto (npc := 287) dL_law_647 (by decide) ?_
                          refine Go.lsub [0, 1, 2, 3, 4] rfl ?_
                          exact hT
                        · replace hT := hTf c416
                          refine g_iconst (npc := 643) dL_law_642 rfl ?_
                          obtain ⟨h417, hT⟩ := hT
                          exact g_iret dL_law_643 rfl (by decide) h417 ⟨_, rfl, hT⟩
                  obtain ⟨h395, hTt, hTf⟩ := hT
                  refine g_icmp_ge (npc := 611) (tgt := 616) dL_law_608 rfl (by decide) ⟨h395, by decide, by decide⟩ (fun c396 => ?_) (fun c396 => ?_)
                  · replace hT := hTt c396
                    refine g_bipush (npc := 618) (x := 11) dL_law_616 rfl (by decide) ?_
                    refine Go.lsub [0, 1, 2, 3, 4, 6, 7, 8] rfl ?_
                    exact K419 _ hT
                  · replace hT := hTf (Int.not_le.mp c396)
                    refine g_iload (npc := 613) dL_law_611 rfl rfl ?_
                    refine g_goto (npc := 618) dL_law_613 (by decide) ?_
                    refine Go.lsub [0, 1, 2, 3, 4, 6, 7, 8] rfl ?_
                    exact K419 _ hT
              obtain ⟨h382, hTt, hTf⟩ := hT
              refine g_icmp_ge (npc := 588) (tgt := 595) dL_law_585 rfl (by decide) ⟨h382, by decide, by decide⟩ (fun c383 => ?_) (fun c383 => ?_)
              · replace hT := hTt c383
                refine g_bipush (npc := 597) (x := 12) dL_law_595 rfl (by decide) ?_
                exact K422 _ hT
              · replace hT := hTf (Int.not_le.mp c383)
                refine g_iload (npc := 590) dL_law_588 rfl rfl ?_
                refine g_iconst (npc := 591) dL_law_590 rfl ?_
                refine g_iadd (npc := 592) dL_law_591 rfl ?_
                refine g_goto (npc := 597) dL_law_592 (by decide) ?_
                exact K422 _ hT
          obtain ⟨h356, hTt, hTf⟩ := hT
          refine g_if_ne (npc := 548) (tgt := 552) dL_law_545 rfl (by decide) h356 (fun c357 => ?_) (fun c357 => ?_)
          · replace hT := hTt c357
            refine g_iconst (npc := 553) dL_law_552 rfl ?_
            exact K425 _ hT
          · replace hT := hTf (Decidable.not_not.mp c357)
            refine g_iconst (npc := 549) dL_law_548 rfl ?_
            refine g_goto (npc := 553) dL_law_549 (by decide) ?_
            exact K425 _ hT
        obtain ⟨h334, hTt, hTf⟩ := hT
        refine g_icmp_ne (npc := 503) (tgt := 526) dL_law_500 rfl (by decide) ⟨h334, by decide, by decide⟩ (fun c335 => ?_) (fun c335 => ?_)
        · replace hT := hTt c335
          refine Go.widen (cs2 := cs + 7) (ss2 := ss + 56) (by omega) (by omega) ?_
          refine Go.lsub [0, 1, 2, 3, 4] rfl ?_
          exact K428 _ hT
        · replace hT := hTf (Decidable.not_not.mp c335)
          refine g_aload_n (npc := 504) dL_law_503 rfl rfl rfl ?_
          obtain ⟨h434, hT⟩ := hT
          obtain ⟨Q429, h430, hT⟩ := hT
          refine iv_La_150 (npc := 507) dL_law_504 rfl rfl (Nat.le_of_ble_eq_true rfl) (by decide) h434 h430 (fun r432 s431 e433 => ?_)
          replace hT := hT r432 s431 e433
          obtain ⟨h435, hTt, hTf⟩ := hT
          refine g_if_eq (npc := 510) (tgt := 524) dL_law_507 rfl (by decide) h435 (fun c436 => ?_) (fun c436 => ?_)
          · replace hT := hTt c436
            refine g_iconst (npc := 525) dL_law_524 rfl ?_
            obtain ⟨h437, hT⟩ := hT
            exact g_iret dL_law_525 rfl (by decide) h437 ⟨_, rfl, hT⟩
          · replace hT := hTf c436
            refine g_iload (npc := 512) dL_law_510 rfl rfl ?_
            refine g_iconst (npc := 513) dL_law_512 rfl ?_
            obtain ⟨h438, hT⟩ := hT
            refine g_irem (npc := 514) dL_law_513 rfl ⟨h438, by decide, by decide⟩ (by decide) ?_
            obtain ⟨h439, hTt, hTf⟩ := hT
            refine g_if_ne (npc := 517) (tgt := 526) dL_law_514 rfl (by decide) h439 (fun c440 => ?_) (fun c440 => ?_)
            · replace hT := hTt c440
              refine Go.lsub [0, 1, 2, 3, 4] rfl ?_
              exact K428 _ hT
            · replace hT := hTf (Decidable.not_not.mp c440)
              refine g_aload_n (npc := 518) dL_law_517 rfl rfl rfl ?_
              obtain ⟨h446, hT⟩ := hT
              obtain ⟨Q441, h442, hT⟩ := hT
              refine iv_La_153 (npc := 521) dL_law_518 rfl rfl (Nat.le_of_ble_eq_true rfl) (by decide) h446 h442 (fun r444 s443 e445 => ?_)
              replace hT := hT r444 s443 e445
              obtain ⟨h447, hTt, hTf⟩ := hT
              refine g_if_ne (npc := 524) (tgt := 526) dL_law_521 rfl (by decide) h447 (fun c448 => ?_) (fun c448 => ?_)
              · replace hT := hTt c448
                refine Go.lsub [0, 1, 2, 3, 4] rfl ?_
                exact K428 _ hT
              · replace hT := hTf (Decidable.not_not.mp c448)
                refine g_iconst (npc := 525) dL_law_524 rfl ?_
                obtain ⟨h449, hT⟩ := hT
                exact g_iret dL_law_525 rfl (by decide) h449 ⟨_, rfl, hT⟩
      · replace hT := hTf (Decidable.not_not.mp c320)
        refine g_iconst (npc := 493) dL_law_492 rfl ?_
        obtain ⟨h451, hT⟩ := hT
        exact g_iret dL_law_493 rfl (by decide) h451 ⟨_, rfl, hT⟩
  · replace hT := hTf (Int.not_le.mp c303)
    refine g_iload (npc := 424) dL_law_422 rfl rfl ?_
    refine g_aload_n (npc := 425) dL_law_424 rfl rfl rfl ?_
    refine g_iconst (npc := 426) dL_law_425 rfl ?_
    obtain ⟨h457, hT⟩ := hT
    obtain ⟨Q452, h453, hT⟩ := hT
    refine iv_La_9 (npc := 429) dL_law_426 rfl rfl (Nat.le_of_ble_eq_true rfl) (by decide) h457 h453 (fun r455 s454 e456 => ?_)
    replace hT := hT r455 s454 e456
    obtain ⟨h458, hTt, hTf⟩ := hT
    refine g_icmp_eq (npc := 432) (tgt := 468) dL_law_429 rfl (by decide) h458 (fun c459 => ?_) (fun c459 => ?_)
    · replace hT := hTt c459
      refine g_iinc (npc := 471) (y := (x9 + 1)) (l' := [(0, .ref 2000), (1, .ref 0), (3, iV x3), (4, iV x4), (5, iV x5), (6, iV x6), (7, iV x7), (9, iV (x9 + 1))]) dL_law_468 rfl (by decide) rfl (by omega) rfl ?_
      refine g_goto (npc := 416) dL_law_471 (by decide) ?_
      exact hT
    · replace hT := hTf c459
      refine g_aload_n (npc := 433) dL_law_432 rfl rfl rfl ?_
      refine g_iload (npc := 435) dL_law_433 rfl rfl ?_
      refine g_iload (npc := 437) dL_law_435 rfl rfl ?_
      refine g_iconst (npc := 438) dL_law_437 rfl ?_
      refine g_iload (npc := 440) dL_law_438 rfl rfl ?_
      refine g_imul (npc := 441) dL_law_440 rfl ?_
      refine g_ishr (npc := 442) dL_law_441 rfl ?_
      refine g_iload (npc := 444) dL_law_442 rfl rfl ?_
      refine g_bipush (npc := 446) (x := 6) dL_law_444 rfl (by decide) ?_
      refine g_ishr (npc := 447) dL_law_446 rfl ?_
      refine g_iconst (npc := 448) dL_law_447 rfl ?_
      obtain ⟨h465, hT⟩ := hT
      obtain ⟨Q460, h461, hT⟩ := hT
      refine iv_La_139 (npc := 451) dL_law_448 rfl rfl (Nat.le_of_ble_eq_true rfl) (by decide) h465 h461 (fun r463 s462 e464 => ?_)
      replace hT := hT r463 s462 e464
      obtain ⟨h466, hTt, hTf⟩ := hT
      refine g_if_ne (npc := 454) (tgt := 459) dL_law_451 rfl (by decide) h466 (fun c467 => ?_) (fun c467 => ?_)
      · replace hT := hTt c467
        refine g_bipush (npc := 461) (x := 8) dL_law_459 rfl (by decide) ?_
        obtain ⟨h473, hT⟩ := hT
        obtain ⟨Q468, h469, hT⟩ := hT
        refine iv_La_139 (npc := 464) dL_law_461 rfl rfl (Nat.le_of_ble_eq_true rfl) (by decide) h473 h469 (fun r471 s470 e472 => ?_)
        replace hT := hT r471 s470 e472
        obtain ⟨h479, hT⟩ := hT
        obtain ⟨Q474, h475, hT⟩ := hT
        refine iv_La_22 (npc := 467) dL_law_464 rfl rfl (Nat.le_of_ble_eq_true rfl) (by decide) h479 h475 (fun r477 s476 e478 => ?_)
        replace hT := hT r477 s476 e478
        refine g_pop (npc := 468) dL_law_467 rfl rfl ?_
        refine g_iinc (npc := 471) (y := (x9 + 1)) (l' := [(0, .ref 2000), (1, .ref 0), (3, iV x3), (4, iV x4), (5, iV x5), (6, iV x6), (7, iV x7), (9, iV (x9 + 1))]) dL_law_468 rfl (by decide) rfl (by omega) rfl ?_
        refine g_goto (npc := 416) dL_law_471 (by decide) ?_
        exact hT
      · replace hT := hTf (Decidable.not_not.mp c467)
        refine g_bipush (npc := 456) (x := 30) dL_law_454 rfl (by decide) ?_
        refine g_goto (npc := 461) dL_law_456 (by decide) ?_
        obtain ⟨h485, hT⟩ := hT
        obtain ⟨Q480, h481, hT⟩ := hT
        refine iv_La_139 (npc := 464) dL_law_461 rfl rfl (Nat.le_of_ble_eq_true rfl) (by decide) h485 h481 (fun r483 s482 e484 => ?_)
        replace hT := hT r483 s482 e484
        obtain ⟨h491, hT⟩ := hT
        obtain ⟨Q486, h487, hT⟩ := hT
        refine iv_La_22 (npc := 467) dL_law_464 rfl rfl (Nat.le_of_ble_eq_true rfl) (by decide) h491 h487 (fun r489 s488 e490 => ?_)
        replace hT := hT r489 s488 e490
        refine g_pop (npc := 468) dL_law_467 rfl rfl ?_
        refine g_iinc (npc := 471) (y := (x9 + 1)) (l' := [(0, .ref 2000), (1, .ref 0), (3, iV x3), (4, iV x4), (5, iV x5), (6, iV x6), (7, iV x7), (9, iV (x9 + 1))]) dL_law_468 rfl (by decide) rfl (by omega) rfl ?_
        refine g_goto (npc := 416) dL_law_471 (by decide) ?_
        exact hT
set_option maxRecDepth 20000 in
theorem b_La_law_start {cs ss : Nat} {Q : Int → Sto → Prop} {s : Sto} (hT : (cs + 0 ≤ 600000 ∧ ss + 0 ≤ 7302250) ∧ ∃ Q1 : Int → Sto → Prop, K_Cg_value 0 0 s Q1 ∧ ∀ r4 s3, Q1 r4 s3 → (-2147483648 ≤ r4 ∧ r4 < 2147483648) ∧ ((¬ r4 = 2) → (cs + 0 ≤ 600000 ∧ ss + 0 ≤ 7302250) ∧ Q 0 s3) ∧ ((r4 = 2) → (cs + 0 ≤ 600000 ∧ ss + 0 ≤ 7302250) ∧ ∃ Q10 : Int → Sto → Prop, K_Cg_value 0 1 s3 Q10 ∧ ∀ r13 s12, Q10 r13 s12 → (-2147483648 ≤ r13 ∧ r13 < 2147483648) ∧ ((¬ r13 = 1) → (cs + 0 ≤ 600000 ∧ ss + 0 ≤ 7302250) ∧ Q 0 s12) ∧ ((r13 = 1) → (cs + 0 ≤ 600000 ∧ ss + 0 ≤ 7302250) ∧ ∃ Q19 : Int → Sto → Prop, K_Cg_treeCount 0 s12 Q19 ∧ ∀ r22 s21, Q19 r22 s21 → (-9223372036854775808 ≤ r22 ∧ r22 < 9223372036854775808) ∧ ((¬ r22 = 1) → (cs + 0 ≤ 600000 ∧ ss + 0 ≤ 7302250) ∧ Q 0 s21) ∧ ((r22 = 1) → (cs + 0 ≤ 600000 ∧ ss + 0 ≤ 7302250) ∧ ∃ Q28 : Int → Sto → Prop, K_Cg_kind 0 s21 Q28 ∧ ∀ r31 s30, Q28 r31 s30 → (-2147483648 ≤ r31 ∧ r31 < 2147483648) ∧ ((¬ r31 = 7) → (cs + 0 ≤ 600000 ∧ ss + 0 ≤ 7302250) ∧ Q 0 s30) ∧ ((r31 = 7) → (cs + 0 ≤ 600000 ∧ ss + 0 ≤ 7302250) ∧ ∃ Q37 : Int → Sto → Prop, K_Cg_undo 0 s30 Q37 ∧ ∀ r40 s39, Q37 r40 s39 → (-2147483648 ≤ r40 ∧ r40 < 2147483648) ∧ ((r40 = (-10007)) → (cs + 0 ≤ 600000 ∧ ss + 0 ≤ 7302250) ∧ ∃ Q45 : Int → Sto → Prop, K_La_cell 0 2000 0 s39 Q45 ∧ ∀ r48 s47, Q45 r48 s47 → (cs + 0 ≤ 600000 ∧ ss + 0 ≤ 7302250) ∧ ∃ Q51 : Int → Sto → Prop, K_La_low 0 r48 6 s47 Q51 ∧ ∀ r54 s53, Q51 r54 s53 → (cs + 0 ≤ 600000 ∧ ss + 0 ≤ 7302250) ∧ ∃ Q57 : Int → Sto → Prop, K_Cg_reset 0 (2 + r54) s53 Q57 ∧ ∀ r60 s59, Q57 r60 s59 → (-2147483648 ≤ r60 ∧ r60 < 2147483648) ∧ ((¬ r60 = 2) → (cs + 0 ≤ 600000 ∧ ss + 0 ≤ 7302250) ∧ Q 0 s59) ∧ ((r60 = 2) → (cs + 0 ≤ 600000 ∧ ss + 0 ≤ 7302250) ∧ ∃ Q66 : Int → Sto → Prop, K_Cg_value 0 1 s59 Q66 ∧ ∀ r69 s68, Q66 r69 s68 → (-2147483648 ≤ r69 ∧ r69 < 2147483648) ∧ ((¬ r69 = 0) → (cs + 0 ≤ 600000 ∧ ss + 0 ≤ 7302250) ∧ Q 0 s68) ∧ ((r69 = 0) → (cs + 0 ≤ 600000 ∧ ss + 0 ≤ 7302250) ∧ ∃ Q75 : Int → Sto → Prop, K_Cg_value 0 3 s68 Q75 ∧ ∀ r78 s77, Q75 r78 s77 → (-2147483648 ≤ r78 ∧ r78 < 2147483648) ∧ ((r78 = 0) → H_La_law_104 0 cs ss Q (2 + r54) 0 0 s77) ∧ ((¬ r78 = 0) → (cs + 0 ≤ 600000 ∧ ss + 0 ≤ 7302250) ∧ Q 0 s77)))) ∧ ((¬ r40 = (-10007)) → (cs + 0 ≤ 600000 ∧ ss + 0 ≤ 7302250) ∧ Q 0 s39)))))) : Go (SL 0) M_La_law (fI Q) cs ss 7 [(0, .ref 2000)] [.ref 0] s := by
  refine g_astore_n (npc := 8) (l' := [(0, .ref 2000), (1, .ref 0)]) dL_law_7 rfl rfl (by decide) rfl ?_
  refine g_aload_n (npc := 9) dL_law_8 rfl rfl rfl ?_
  refine g_iconst (npc := 10) dL_law_9 rfl ?_
  obtain ⟨h6, hT⟩ := hT
  obtain ⟨Q1, h2, hT⟩ := hT
  refine iv_La_9 (npc := 13) dL_law_10 rfl rfl (Nat.le_of_ble_eq_true rfl) (by decide) h6 h2 (fun r4 s3 e5 => ?_)
  replace hT := hT r4 s3 e5
  refine g_iconst (npc := 14) dL_law_13 rfl ?_
  obtain ⟨h7, hTt, hTf⟩ := hT
  refine g_icmp_ne (npc := 17) (tgt := 54) dL_law_14 rfl (by decide) ⟨h7, by decide, by decide⟩ (fun c8 => ?_) (fun c8 => ?_)
  · replace hT := hTt c8
    refine g_iconst (npc := 55) dL_law_54 rfl ?_
    obtain ⟨h9, hT⟩ := hT
    exact g_iret dL_law_55 rfl (by decide) h9 ⟨_, rfl, hT⟩
  · replace hT := hTf (Decidable.not_not.mp c8)
    refine g_aload_n (npc := 18) dL_law_17 rfl rfl rfl ?_
    refine g_iconst (npc := 19) dL_law_18 rfl ?_
    obtain ⟨h15, hT⟩ := hT
    obtain ⟨Q10, h11, hT⟩ := hT
    refine iv_La_9 (npc := 22) dL_law_19 rfl rfl (Nat.le_of_ble_eq_true rfl) (by decide) h15 h11 (fun r13 s12 e14 => ?_)
    replace hT := hT r13 s12 e14
    refine g_iconst (npc := 23) dL_law_22 rfl ?_
    obtain ⟨h16, hTt, hTf⟩ := hT
    refine g_icmp_ne (npc := 26) (tgt := 54) dL_law_23 rfl (by decide) ⟨h16, by decide, by decide⟩ (fun c17 => ?_) (fun c17 => ?_)
    · replace hT := hTt c17
      refine g_iconst (npc := 55) dL_law_54 rfl ?_
      obtain ⟨h18, hT⟩ := hT
      exact g_iret dL_law_55 rfl (by decide) h18 ⟨_, rfl, hT⟩
    · replace hT := hTf (Decidable.not_not.mp c17)
      refine g_aload_n (npc := 27) dL_law_26 rfl rfl rfl ?_
      obtain ⟨h24, hT⟩ := hT
      obtain ⟨Q19, h20, hT⟩ := hT
      refine iv_La_45 (npc := 30) dL_law_27 rfl rfl (Nat.le_of_ble_eq_true rfl) (by decide) h24 h20 (fun r22 s21 e23 => ?_)
      replace hT := hT r22 s21 e23
      refine g_lconst (npc := 31) (x := 1) dL_law_30 rfl (by decide) ?_
      obtain ⟨h25, hTt, hTf⟩ := hT
      refine g_lne (pc2 := 32) (npc := 35) (tgt := 54) dL_law_31 rfl dL_law_32 rfl (by decide) ⟨h25, by decide, by decide⟩ (fun c26 => ?_) (fun c26 => ?_)
      · replace hT := hTt c26
        refine g_iconst (npc := 55) dL_law_54 rfl ?_
        obtain ⟨h27, hT⟩ := hT
        exact g_iret dL_law_55 rfl (by decide) h27 ⟨_, rfl, hT⟩
      · replace hT := hTf (Decidable.not_not.mp c26)
        refine g_aload_n (npc := 36) dL_law_35 rfl rfl rfl ?_
        obtain ⟨h33, hT⟩ := hT
        obtain ⟨Q28, h29, hT⟩ := hT
        refine iv_La_49 (npc := 39) dL_law_36 rfl rfl (Nat.le_of_ble_eq_true rfl) (by decide) h33 h29 (fun r31 s30 e32 => ?_)
        replace hT := hT r31 s30 e32
        refine g_bipush (npc := 41) (x := 7) dL_law_39 rfl (by decide) ?_
        obtain ⟨h34, hTt, hTf⟩ := hT
        refine g_icmp_ne (npc := 44) (tgt := 54) dL_law_41 rfl (by decide) ⟨h34, by decide, by decide⟩ (fun c35 => ?_) (fun c35 => ?_)
        · replace hT := hTt c35
          refine g_iconst (npc := 55) dL_law_54 rfl ?_
          obtain ⟨h36, hT⟩ := hT
          exact g_iret dL_law_55 rfl (by decide) h36 ⟨_, rfl, hT⟩
        · replace hT := hTf (Decidable.not_not.mp c35)
          refine g_aload_n (npc := 45) dL_law_44 rfl rfl rfl ?_
          obtain ⟨h42, hT⟩ := hT
          obtain ⟨Q37, h38, hT⟩ := hT
          refine iv_La_132 (npc := 48) dL_law_45 rfl rfl (Nat.le_of_ble_eq_true rfl) (by decide) h42 h38 (fun r40 s39 e41 => ?_)
          replace hT := hT r40 s39 e41
          refine g_sipush (npc := 51) (x := (-10007)) dL_law_48 rfl (by decide) ?_
          obtain ⟨h43, hTt, hTf⟩ := hT
          refine g_icmp_eq (npc := 54) (tgt := 56) dL_law_51 rfl (by decide) ⟨h43, by decide, by decide⟩ (fun c44 => ?_) (fun c44 => ?_)
          · replace hT := hTt c44
            refine g_aload_n (npc := 57) dL_law_56 rfl rfl rfl ?_
            refine g_iconst (npc := 58) dL_law_57 rfl ?_
            obtain ⟨h50, hT⟩ := hT
            obtain ⟨Q45, h46, hT⟩ := hT
            refine iv_La_135 (npc := 61) dL_law_58 rfl rfl (Nat.le_of_ble_eq_true rfl) (by decide) h50 h46 (fun r48 s47 e49 => ?_)
            replace hT := hT r48 s47 e49
            refine g_istore_n (npc := 62) (l' := [(0, .ref 2000), (1, .ref 0), (2, iV r48)]) dL_law_61 rfl rfl (by decide) rfl ?_
            refine g_iconst (npc := 63) dL_law_62 rfl ?_
            refine g_iload_n (npc := 64) dL_law_63 rfl rfl rfl ?_
            refine g_bipush (npc := 66) (x := 6) dL_law_64 rfl (by decide) ?_
            obtain ⟨h56, hT⟩ := hT
            obtain ⟨Q51, h52, hT⟩ := hT
            refine iv_La_139 (npc := 69) dL_law_66 rfl rfl (Nat.le_of_ble_eq_true rfl) (by decide) h56 h52 (fun r54 s53 e55 => ?_)
            replace hT := hT r54 s53 e55
            refine g_iadd (npc := 70) dL_law_69 rfl ?_
            refine g_istore_n (npc := 71) (l' := [(0, .ref 2000), (1, .ref 0), (2, iV r48), (3, iV (2 + r54))]) dL_law_70 rfl rfl (by decide) rfl ?_
            refine g_iconst (npc := 72) dL_law_71 rfl ?_
            refine g_istore (npc := 74) (l' := [(0, .ref 2000), (1, .ref 0), (2, iV r48), (3, iV (2 + r54)), (4, iV 0)]) dL_law_72 rfl (by decide) rfl ?_
            refine g_aload_n (npc := 75) dL_law_74 rfl rfl rfl ?_
            refine g_iload_n (npc := 76) dL_law_75 rfl rfl rfl ?_
            obtain ⟨h62, hT⟩ := hT
            obtain ⟨Q57, h58, hT⟩ := hT
            refine iv_La_116 (npc := 79) dL_law_76 rfl rfl (Nat.le_of_ble_eq_true rfl) (by decide) h62 h58 (fun r60 s59 e61 => ?_)
            replace hT := hT r60 s59 e61
            refine g_iconst (npc := 80) dL_law_79 rfl ?_
            obtain ⟨h63, hTt, hTf⟩ := hT
            refine g_icmp_ne (npc := 83) (tgt := 99) dL_law_80 rfl (by decide) ⟨h63, by decide, by decide⟩ (fun c64 => ?_) (fun c64 => ?_)
            · replace hT := hTt c64
              refine g_iconst (npc := 100) dL_law_99 rfl ?_
              obtain ⟨h65, hT⟩ := hT
              exact g_iret dL_law_100 rfl (by decide) h65 ⟨_, rfl, hT⟩
            · replace hT := hTf (Decidable.not_not.mp c64)
              refine g_aload_n (npc := 84) dL_law_83 rfl rfl rfl ?_
              refine g_iconst (npc := 85) dL_law_84 rfl ?_
              obtain ⟨h71, hT⟩ := hT
              obtain ⟨Q66, h67, hT⟩ := hT
              refine iv_La_9 (npc := 88) dL_law_85 rfl rfl (Nat.le_of_ble_eq_true rfl) (by decide) h71 h67 (fun r69 s68 e70 => ?_)
              replace hT := hT r69 s68 e70
              obtain ⟨h72, hTt, hTf⟩ := hT
              refine g_if_ne (npc := 91) (tgt := 99) dL_law_88 rfl (by decide) h72 (fun c73 => ?_) (fun c73 => ?_)
              · replace hT := hTt c73
                refine g_iconst (npc := 100) dL_law_99 rfl ?_
                obtain ⟨h74, hT⟩ := hT
                exact g_iret dL_law_100 rfl (by decide) h74 ⟨_, rfl, hT⟩
              · replace hT := hTf (Decidable.not_not.mp c73)
                refine g_aload_n (npc := 92) dL_law_91 rfl rfl rfl ?_
                refine g_iconst (npc := 93) dL_law_92 rfl ?_
                obtain ⟨h80, hT⟩ := hT
                obtain ⟨Q75, h76, hT⟩ := hT
                refine iv_La_9 (npc := 96) dL_law_93 rfl rfl (Nat.le_of_ble_eq_true rfl) (by decide) h80 h76 (fun r78 s77 e79 => ?_)
                replace hT := hT r78 s77 e79
                obtain ⟨h81, hTt, hTf⟩ := hT
                refine g_if_eq (npc := 99) (tgt := 101) dL_law_96 rfl (by decide) h81 (fun c82 => ?_) (fun c82 => ?_)
                · replace hT := hTt c82
                  refine g_iconst (npc := 102) dL_law_101 rfl ?_
                  refine g_istore (npc := 104) (l' := [(0, .ref 2000), (1, .ref 0), (2, iV r48), (3, iV (2 + r54)), (4, iV 0), (5, iV 0)]) dL_law_102 rfl (by decide) rfl ?_
                  refine Go.lsub [0, 1, 3, 4, 5] rfl ?_
                  exact hT
                · replace hT := hTf c82
                  refine g_iconst (npc := 100) dL_law_99 rfl ?_
                  obtain ⟨h83, hT⟩ := hT
                  exact g_iret dL_law_100 rfl (by decide) h83 ⟨_, rfl, hT⟩
          · replace hT := hTf c44
            refine g_iconst (npc := 55) dL_law_54 rfl ?_
            obtain ⟨h84, hT⟩ := hT
            exact g_iret dL_law_55 rfl (by decide) h84 ⟨_, rfl, hT⟩
