/-! blocks of ChipGame -/
theorem dX10_reset_0 : decode cX10_reset 0 = .ok (.iload_n 1, 1) := by decide +kernel
theorem dX10_reset_1 : decode cX10_reset 1 = .ok (.iconst 2, 1) := by decide +kernel
theorem dX10_reset_2 : decode cX10_reset 2 = .ok (.if_icmp .lt 9, 3) := by decide +kernel
theorem dX10_reset_5 : decode cX10_reset 5 = .ok (.iload_n 1, 1) := by decide +kernel
theorem dX10_reset_6 : decode cX10_reset 6 = .ok (.bipush 8, 2) := by decide +kernel
theorem dX10_reset_8 : decode cX10_reset 8 = .ok (.if_icmp .le 7, 3) := by decide +kernel
theorem dX10_reset_11 : decode cX10_reset 11 = .ok (.sipush (-10002), 3) := by decide +kernel
theorem dX10_reset_14 : decode cX10_reset 14 = .ok (.ireturn, 1) := by decide +kernel
theorem dX10_reset_15 : decode cX10_reset 15 = .ok (.aload_n 0, 1) := by decide +kernel
theorem dX10_reset_16 : decode cX10_reset 16 = .ok (.getfield 12, 3) := by decide +kernel
theorem dX10_reset_19 : decode cX10_reset 19 = .ok (.getfield 98, 3) := by decide +kernel
theorem dX10_reset_22 : decode cX10_reset 22 = .ok (.istore_n 2, 1) := by decide +kernel
theorem dX10_reset_23 : decode cX10_reset 23 = .ok (.aload_n 0, 1) := by decide +kernel
theorem dX10_reset_24 : decode cX10_reset 24 = .ok (.iload_n 1, 1) := by decide +kernel
theorem dX10_reset_25 : decode cX10_reset 25 = .ok (.invokevirtual 102, 3) := by decide +kernel
theorem dX10_reset_28 : decode cX10_reset 28 = .ok (.iload_n 2, 1) := by decide +kernel
theorem dX10_reset_29 : decode cX10_reset 29 = .ok (.ireturn, 1) := by decide +kernel
theorem dX10_addEdge_0 : decode cX10_addEdge 0 = .ok (.aload_n 0, 1) := by decide +kernel
theorem dX10_addEdge_1 : decode cX10_addEdge 1 = .ok (.getfield 12, 3) := by decide +kernel
theorem dX10_addEdge_4 : decode cX10_addEdge 4 = .ok (.iload_n 1, 1) := by decide +kernel
theorem dX10_addEdge_5 : decode cX10_addEdge 5 = .ok (.invokevirtual 105, 3) := by decide +kernel
theorem dX10_addEdge_8 : decode cX10_addEdge 8 = .ok (.ifCond .eq 14, 3) := by decide +kernel
theorem dX10_addEdge_11 : decode cX10_addEdge 11 = .ok (.aload_n 0, 1) := by decide +kernel
theorem dX10_addEdge_12 : decode cX10_addEdge 12 = .ok (.getfield 12, 3) := by decide +kernel
theorem dX10_addEdge_15 : decode cX10_addEdge 15 = .ok (.iload_n 2, 1) := by decide +kernel
theorem dX10_addEdge_16 : decode cX10_addEdge 16 = .ok (.invokevirtual 105, 3) := by decide +kernel
theorem dX10_addEdge_19 : decode cX10_addEdge 19 = .ok (.ifCond .ne 7, 3) := by decide +kernel
theorem dX10_addEdge_22 : decode cX10_addEdge 22 = .ok (.sipush (-10001), 3) := by decide +kernel
theorem dX10_addEdge_25 : decode cX10_addEdge 25 = .ok (.ireturn, 1) := by decide +kernel
theorem dX10_addEdge_26 : decode cX10_addEdge 26 = .ok (.iload_n 1, 1) := by decide +kernel
theorem dX10_addEdge_27 : decode cX10_addEdge 27 = .ok (.iload_n 2, 1) := by decide +kernel
theorem dX10_addEdge_28 : decode cX10_addEdge 28 = .ok (.if_icmp .ne 7, 3) := by decide +kernel
theorem dX10_addEdge_31 : decode cX10_addEdge 31 = .ok (.sipush (-10002), 3) := by decide +kernel
theorem dX10_addEdge_34 : decode cX10_addEdge 34 = .ok (.ireturn, 1) := by decide +kernel
theorem dX10_addEdge_35 : decode cX10_addEdge 35 = .ok (.aload_n 0, 1) := by decide +kernel
theorem dX10_addEdge_36 : decode cX10_addEdge 36 = .ok (.getfield 12, 3) := by decide +kernel
theorem dX10_addEdge_39 : decode cX10_addEdge 39 = .ok (.getfield 109, 3) := by decide +kernel
theorem dX10_addEdge_42 : decode cX10_addEdge 42 = .ok (.bipush 20, 2) := by decide +kernel
theorem dX10_addEdge_44 : decode cX10_addEdge 44 = .ok (.if_icmp .lt 7, 3) := by decide +kernel
theorem dX10_addEdge_47 : decode cX10_addEdge 47 = .ok (.sipush (-10005), 3) := by decide +kernel
theorem dX10_addEdge_50 : decode cX10_addEdge 50 = .ok (.ireturn, 1) := by decide +kernel
theorem dX10_addEdge_51 : decode cX10_addEdge 51 = .ok (.aload_n 0, 1) := by decide +kernel
theorem dX10_addEdge_52 : decode cX10_addEdge 52 = .ok (.getfield 12, 3) := by decide +kernel
theorem dX10_addEdge_55 : decode cX10_addEdge 55 = .ok (.iload_n 1, 1) := by decide +kernel
theorem dX10_addEdge_56 : decode cX10_addEdge 56 = .ok (.iload_n 2, 1) := by decide +kernel
theorem dX10_addEdge_57 : decode cX10_addEdge 57 = .ok (.invokevirtual 94, 3) := by decide +kernel
theorem dX10_addEdge_60 : decode cX10_addEdge 60 = .ok (.aload_n 0, 1) := by decide +kernel
theorem dX10_addEdge_61 : decode cX10_addEdge 61 = .ok (.invokevirtual 112, 3) := by decide +kernel
theorem dX10_addEdge_64 : decode cX10_addEdge 64 = .ok (.aload_n 0, 1) := by decide +kernel
theorem dX10_addEdge_65 : decode cX10_addEdge 65 = .ok (.getfield 12, 3) := by decide +kernel
theorem dX10_addEdge_68 : decode cX10_addEdge 68 = .ok (.getfield 109, 3) := by decide +kernel
theorem dX10_addEdge_71 : decode cX10_addEdge 71 = .ok (.iconst 1, 1) := by decide +kernel
theorem dX10_addEdge_72 : decode cX10_addEdge 72 = .ok (.isub, 1) := by decide +kernel
theorem dX10_addEdge_73 : decode cX10_addEdge 73 = .ok (.ireturn, 1) := by decide +kernel
theorem dX10_removeEdge_0 : decode cX10_removeEdge 0 = .ok (.aload_n 0, 1) := by decide +kernel
theorem dX10_removeEdge_1 : decode cX10_removeEdge 1 = .ok (.getfield 12, 3) := by decide +kernel
theorem dX10_removeEdge_4 : decode cX10_removeEdge 4 = .ok (.iload_n 1, 1) := by decide +kernel
theorem dX10_removeEdge_5 : decode cX10_removeEdge 5 = .ok (.invokevirtual 115, 3) := by decide +kernel
theorem dX10_removeEdge_8 : decode cX10_removeEdge 8 = .ok (.ifCond .ne 7, 3) := by decide +kernel
theorem dX10_removeEdge_11 : decode cX10_removeEdge 11 = .ok (.sipush (-10001), 3) := by decide +kernel
theorem dX10_removeEdge_14 : decode cX10_removeEdge 14 = .ok (.ireturn, 1) := by decide +kernel
theorem dX10_removeEdge_15 : decode cX10_removeEdge 15 = .ok (.aload_n 0, 1) := by decide +kernel
theorem dX10_removeEdge_16 : decode cX10_removeEdge 16 = .ok (.getfield 12, 3) := by decide +kernel
theorem dX10_removeEdge_19 : decode cX10_removeEdge 19 = .ok (.iload_n 1, 1) := by decide +kernel
theorem dX10_removeEdge_20 : decode cX10_removeEdge 20 = .ok (.invokevirtual 118, 3) := by decide +kernel
theorem dX10_removeEdge_23 : decode cX10_removeEdge 23 = .ok (.aload_n 0, 1) := by decide +kernel
theorem dX10_removeEdge_24 : decode cX10_removeEdge 24 = .ok (.invokevirtual 112, 3) := by decide +kernel
theorem dX10_removeEdge_27 : decode cX10_removeEdge 27 = .ok (.aload_n 0, 1) := by decide +kernel
theorem dX10_removeEdge_28 : decode cX10_removeEdge 28 = .ok (.getfield 12, 3) := by decide +kernel
theorem dX10_removeEdge_31 : decode cX10_removeEdge 31 = .ok (.getfield 109, 3) := by decide +kernel
theorem dX10_removeEdge_34 : decode cX10_removeEdge 34 = .ok (.ireturn, 1) := by decide +kernel
theorem dX10_setSink_0 : decode cX10_setSink 0 = .ok (.aload_n 0, 1) := by decide +kernel
theorem dX10_setSink_1 : decode cX10_setSink 1 = .ok (.getfield 12, 3) := by decide +kernel
theorem dX10_setSink_4 : decode cX10_setSink 4 = .ok (.iload_n 1, 1) := by decide +kernel
theorem dX10_setSink_5 : decode cX10_setSink 5 = .ok (.invokevirtual 105, 3) := by decide +kernel
theorem dX10_setSink_8 : decode cX10_setSink 8 = .ok (.ifCond .ne 7, 3) := by decide +kernel
theorem dX10_setSink_11 : decode cX10_setSink 11 = .ok (.sipush (-10001), 3) := by decide +kernel
theorem dX10_setSink_14 : decode cX10_setSink 14 = .ok (.ireturn, 1) := by decide +kernel
theorem dX10_setSink_15 : decode cX10_setSink 15 = .ok (.aload_n 0, 1) := by decide +kernel
theorem dX10_setSink_16 : decode cX10_setSink 16 = .ok (.getfield 12, 3) := by decide +kernel
theorem dX10_setSink_19 : decode cX10_setSink 19 = .ok (.getfield 121, 3) := by decide +kernel
theorem dX10_setSink_22 : decode cX10_setSink 22 = .ok (.istore_n 2, 1) := by decide +kernel
theorem dX10_setSink_23 : decode cX10_setSink 23 = .ok (.iload_n 1, 1) := by decide +kernel
theorem dX10_setSink_24 : decode cX10_setSink 24 = .ok (.iload_n 2, 1) := by decide +kernel
theorem dX10_setSink_25 : decode cX10_setSink 25 = .ok (.if_icmp .eq 22, 3) := by decide +kernel
theorem dX10_setSink_28 : decode cX10_setSink 28 = .ok (.aload_n 0, 1) := by decide +kernel
theorem dX10_setSink_29 : decode cX10_setSink 29 = .ok (.getfield 12, 3) := by decide +kernel
theorem dX10_setSink_32 : decode cX10_setSink 32 = .ok (.iload_n 1, 1) := by decide +kernel
theorem dX10_setSink_33 : decode cX10_setSink 33 = .ok (.putfield 121, 3) := by decide +kernel
theorem dX10_setSink_36 : decode cX10_setSink 36 = .ok (.aload_n 0, 1) := by decide +kernel
theorem dX10_setSink_37 : decode cX10_setSink 37 = .ok (.getfield 80, 3) := by decide +kernel
theorem dX10_setSink_40 : decode cX10_setSink 40 = .ok (.iload_n 1, 1) := by decide +kernel
theorem dX10_setSink_41 : decode cX10_setSink 41 = .ok (.iconst 0, 1) := by decide +kernel
theorem dX10_setSink_42 : decode cX10_setSink 42 = .ok (.iastore, 1) := by decide +kernel
theorem dX10_setSink_43 : decode cX10_setSink 43 = .ok (.aload_n 0, 1) := by decide +kernel
theorem dX10_setSink_44 : decode cX10_setSink 44 = .ok (.invokevirtual 112, 3) := by decide +kernel
theorem dX10_setSink_47 : decode cX10_setSink 47 = .ok (.iload_n 2, 1) := by decide +kernel
theorem dX10_setSink_48 : decode cX10_setSink 48 = .ok (.ireturn, 1) := by decide +kernel
theorem dX10_value_0 : decode cX10_value 0 = .ok (.iload_n 1, 1) := by decide +kernel
theorem dX10_value_1 : decode cX10_value 1 = .ok (.tableswitch 107 0 6 #[43, 51, 59, 67, 83, 91, 99], 43) := by decide +kernel
theorem dX10_value_44 : decode cX10_value 44 = .ok (.aload_n 0, 1) := by decide +kernel
theorem dX10_value_45 : decode cX10_value 45 = .ok (.getfield 12, 3) := by decide +kernel
theorem dX10_value_48 : decode cX10_value 48 = .ok (.getfield 98, 3) := by decide +kernel
theorem dX10_value_51 : decode cX10_value 51 = .ok (.ireturn, 1) := by decide +kernel
theorem dX10_value_52 : decode cX10_value 52 = .ok (.aload_n 0, 1) := by decide +kernel
theorem dX10_value_53 : decode cX10_value 53 = .ok (.getfield 12, 3) := by decide +kernel
theorem dX10_value_56 : decode cX10_value 56 = .ok (.getfield 109, 3) := by decide +kernel
theorem dX10_value_59 : decode cX10_value 59 = .ok (.ireturn, 1) := by decide +kernel
theorem dX10_value_60 : decode cX10_value 60 = .ok (.aload_n 0, 1) := by decide +kernel
theorem dX10_value_61 : decode cX10_value 61 = .ok (.getfield 12, 3) := by decide +kernel
theorem dX10_value_64 : decode cX10_value 64 = .ok (.getfield 121, 3) := by decide +kernel
theorem dX10_value_67 : decode cX10_value 67 = .ok (.ireturn, 1) := by decide +kernel
theorem dX10_value_68 : decode cX10_value 68 = .ok (.aload_n 0, 1) := by decide +kernel
theorem dX10_value_69 : decode cX10_value 69 = .ok (.getfield 12, 3) := by decide +kernel
theorem dX10_value_72 : decode cX10_value 72 = .ok (.invokevirtual 147, 3) := by decide +kernel
theorem dX10_value_75 : decode cX10_value 75 = .ok (.ifCond .eq 7, 3) := by decide +kernel
theorem dX10_value_78 : decode cX10_value 78 = .ok (.iconst 1, 1) := by decide +kernel
theorem dX10_value_79 : decode cX10_value 79 = .ok (.goto 4, 3) := by decide +kernel
theorem dX10_value_82 : decode cX10_value 82 = .ok (.iconst 0, 1) := by decide +kernel
theorem dX10_value_83 : decode cX10_value 83 = .ok (.ireturn, 1) := by decide +kernel
theorem dX10_value_84 : decode cX10_value 84 = .ok (.aload_n 0, 1) := by decide +kernel
theorem dX10_value_85 : decode cX10_value 85 = .ok (.getfield 80, 3) := by decide +kernel
theorem dX10_value_88 : decode cX10_value 88 = .ok (.invokestatic 151, 3) := by decide +kernel
theorem dX10_value_91 : decode cX10_value 91 = .ok (.ireturn, 1) := by decide +kernel
theorem dX10_value_92 : decode cX10_value 92 = .ok (.aload_n 0, 1) := by decide +kernel
theorem dX10_value_93 : decode cX10_value 93 = .ok (.getfield 28, 3) := by decide +kernel
theorem dX10_value_96 : decode cX10_value 96 = .ok (.getfield 155, 3) := by decide +kernel
theorem dX10_value_99 : decode cX10_value 99 = .ok (.ireturn, 1) := by decide +kernel
theorem dX10_value_100 : decode cX10_value 100 = .ok (.aload_n 0, 1) := by decide +kernel
theorem dX10_value_101 : decode cX10_value 101 = .ok (.getfield 12, 3) := by decide +kernel
theorem dX10_value_104 : decode cX10_value 104 = .ok (.invokevirtual 158, 3) := by decide +kernel
theorem dX10_value_107 : decode cX10_value 107 = .ok (.ireturn, 1) := by decide +kernel
theorem dX10_value_108 : decode cX10_value 108 = .ok (.sipush (-10002), 3) := by decide +kernel
theorem dX10_value_111 : decode cX10_value 111 = .ok (.ireturn, 1) := by decide +kernel
theorem dX10_degree_0 : decode cX10_degree 0 = .ok (.aload_n 0, 1) := by decide +kernel
theorem dX10_degree_1 : decode cX10_degree 1 = .ok (.getfield 12, 3) := by decide +kernel
theorem dX10_degree_4 : decode cX10_degree 4 = .ok (.iload_n 1, 1) := by decide +kernel
theorem dX10_degree_5 : decode cX10_degree 5 = .ok (.invokevirtual 105, 3) := by decide +kernel
theorem dX10_degree_8 : decode cX10_degree 8 = .ok (.ifCond .eq 14, 3) := by decide +kernel
theorem dX10_degree_11 : decode cX10_degree 11 = .ok (.aload_n 0, 1) := by decide +kernel
theorem dX10_degree_12 : decode cX10_degree 12 = .ok (.getfield 12, 3) := by decide +kernel
theorem dX10_degree_15 : decode cX10_degree 15 = .ok (.iload_n 1, 1) := by decide +kernel
theorem dX10_degree_16 : decode cX10_degree 16 = .ok (.invokevirtual 161, 3) := by decide +kernel
theorem dX10_degree_19 : decode cX10_degree 19 = .ok (.goto 6, 3) := by decide +kernel
theorem dX10_degree_22 : decode cX10_degree 22 = .ok (.sipush (-10001), 3) := by decide +kernel
theorem dX10_degree_25 : decode cX10_degree 25 = .ok (.ireturn, 1) := by decide +kernel
theorem dX10_edge_0 : decode cX10_edge 0 = .ok (.aload_n 0, 1) := by decide +kernel
theorem dX10_edge_1 : decode cX10_edge 1 = .ok (.getfield 12, 3) := by decide +kernel
theorem dX10_edge_4 : decode cX10_edge 4 = .ok (.iload_n 1, 1) := by decide +kernel
theorem dX10_edge_5 : decode cX10_edge 5 = .ok (.invokevirtual 115, 3) := by decide +kernel
theorem dX10_edge_8 : decode cX10_edge 8 = .ok (.ifCond .ne 7, 3) := by decide +kernel
theorem dX10_edge_11 : decode cX10_edge 11 = .ok (.sipush (-10001), 3) := by decide +kernel
theorem dX10_edge_14 : decode cX10_edge 14 = .ok (.ireturn, 1) := by decide +kernel
theorem dX10_edge_15 : decode cX10_edge 15 = .ok (.iload_n 2, 1) := by decide +kernel
theorem dX10_edge_16 : decode cX10_edge 16 = .ok (.ifCond .eq 15, 3) := by decide +kernel
theorem dX10_edge_19 : decode cX10_edge 19 = .ok (.aload_n 0, 1) := by decide +kernel
theorem dX10_edge_20 : decode cX10_edge 20 = .ok (.getfield 12, 3) := by decide +kernel
theorem dX10_edge_23 : decode cX10_edge 23 = .ok (.getfield 165, 3) := by decide +kernel
theorem dX10_edge_26 : decode cX10_edge 26 = .ok (.iload_n 1, 1) := by decide +kernel
theorem dX10_edge_27 : decode cX10_edge 27 = .ok (.iaload, 1) := by decide +kernel
theorem dX10_edge_28 : decode cX10_edge 28 = .ok (.goto 12, 3) := by decide +kernel
theorem dX10_edge_31 : decode cX10_edge 31 = .ok (.aload_n 0, 1) := by decide +kernel
theorem dX10_edge_32 : decode cX10_edge 32 = .ok (.getfield 12, 3) := by decide +kernel
theorem dX10_edge_35 : decode cX10_edge 35 = .ok (.getfield 168, 3) := by decide +kernel
theorem dX10_edge_38 : decode cX10_edge 38 = .ok (.iload_n 1, 1) := by decide +kernel
theorem dX10_edge_39 : decode cX10_edge 39 = .ok (.iaload, 1) := by decide +kernel
theorem dX10_edge_40 : decode cX10_edge 40 = .ok (.ireturn, 1) := by decide +kernel
theorem dX10_setChips_0 : decode cX10_setChips 0 = .ok (.aload_n 0, 1) := by decide +kernel
theorem dX10_setChips_1 : decode cX10_setChips 1 = .ok (.getfield 12, 3) := by decide +kernel
theorem dX10_setChips_4 : decode cX10_setChips 4 = .ok (.iload_n 1, 1) := by decide +kernel
theorem dX10_setChips_5 : decode cX10_setChips 5 = .ok (.invokevirtual 171, 3) := by decide +kernel
theorem dX10_setChips_8 : decode cX10_setChips 8 = .ok (.ifCond .ne 7, 3) := by decide +kernel
theorem dX10_setChips_11 : decode cX10_setChips 11 = .ok (.sipush (-10001), 3) := by decide +kernel
theorem dX10_setChips_14 : decode cX10_setChips 14 = .ok (.ireturn, 1) := by decide +kernel
theorem dX10_setChips_15 : decode cX10_setChips 15 = .ok (.iload_n 2, 1) := by decide +kernel
theorem dX10_setChips_16 : decode cX10_setChips 16 = .ok (.ifCond .lt 10, 3) := by decide +kernel
theorem dX10_setChips_19 : decode cX10_setChips 19 = .ok (.iload_n 2, 1) := by decide +kernel
theorem dX10_setChips_20 : decode cX10_setChips 20 = .ok (.sipush 1000, 3) := by decide +kernel
theorem dX10_setChips_23 : decode cX10_setChips 23 = .ok (.if_icmp .le 7, 3) := by decide +kernel
theorem dX10_setChips_26 : decode cX10_setChips 26 = .ok (.sipush (-10002), 3) := by decide +kernel
theorem dX10_setChips_29 : decode cX10_setChips 29 = .ok (.ireturn, 1) := by decide +kernel
theorem dX10_setChips_30 : decode cX10_setChips 30 = .ok (.aload_n 0, 1) := by decide +kernel
theorem dX10_setChips_31 : decode cX10_setChips 31 = .ok (.getfield 28, 3) := by decide +kernel
theorem dX10_setChips_34 : decode cX10_setChips 34 = .ok (.aload_n 0, 1) := by decide +kernel
theorem dX10_setChips_35 : decode cX10_setChips 35 = .ok (.getfield 80, 3) := by decide +kernel
theorem dX10_setChips_38 : decode cX10_setChips 38 = .ok (.invokevirtual 174, 3) := by decide +kernel
theorem dX10_setChips_41 : decode cX10_setChips 41 = .ok (.aload_n 0, 1) := by decide +kernel
theorem dX10_setChips_42 : decode cX10_setChips 42 = .ok (.getfield 80, 3) := by decide +kernel
theorem dX10_setChips_45 : decode cX10_setChips 45 = .ok (.iload_n 1, 1) := by decide +kernel
theorem dX10_setChips_46 : decode cX10_setChips 46 = .ok (.iaload, 1) := by decide +kernel
theorem dX10_setChips_47 : decode cX10_setChips 47 = .ok (.istore_n 3, 1) := by decide +kernel
theorem dX10_setChips_48 : decode cX10_setChips 48 = .ok (.aload_n 0, 1) := by decide +kernel
theorem dX10_setChips_49 : decode cX10_setChips 49 = .ok (.getfield 80, 3) := by decide +kernel
theorem dX10_setChips_52 : decode cX10_setChips 52 = .ok (.iload_n 1, 1) := by decide +kernel
theorem dX10_setChips_53 : decode cX10_setChips 53 = .ok (.iload_n 2, 1) := by decide +kernel
theorem dX10_setChips_54 : decode cX10_setChips 54 = .ok (.iastore, 1) := by decide +kernel
theorem dX10_setChips_55 : decode cX10_setChips 55 = .ok (.iload_n 3, 1) := by decide +kernel
theorem dX10_setChips_56 : decode cX10_setChips 56 = .ok (.ireturn, 1) := by decide +kernel
theorem dX10_chips_0 : decode cX10_chips 0 = .ok (.aload_n 0, 1) := by decide +kernel
theorem dX10_chips_1 : decode cX10_chips 1 = .ok (.getfield 12, 3) := by decide +kernel
theorem dX10_chips_4 : decode cX10_chips 4 = .ok (.iload_n 1, 1) := by decide +kernel
theorem dX10_chips_5 : decode cX10_chips 5 = .ok (.invokevirtual 171, 3) := by decide +kernel
theorem dX10_chips_8 : decode cX10_chips 8 = .ok (.ifCond .eq 12, 3) := by decide +kernel
theorem dX10_chips_11 : decode cX10_chips 11 = .ok (.aload_n 0, 1) := by decide +kernel
theorem dX10_chips_12 : decode cX10_chips 12 = .ok (.getfield 80, 3) := by decide +kernel
theorem dX10_chips_15 : decode cX10_chips 15 = .ok (.iload_n 1, 1) := by decide +kernel
theorem dX10_chips_16 : decode cX10_chips 16 = .ok (.iaload, 1) := by decide +kernel
theorem dX10_chips_17 : decode cX10_chips 17 = .ok (.goto 6, 3) := by decide +kernel
theorem dX10_chips_20 : decode cX10_chips 20 = .ok (.sipush (-10001), 3) := by decide +kernel
theorem dX10_chips_23 : decode cX10_chips 23 = .ok (.ireturn, 1) := by decide +kernel
theorem dX10_fire_0 : decode cX10_fire 0 = .ok (.aload_n 0, 1) := by decide +kernel
theorem dX10_fire_1 : decode cX10_fire 1 = .ok (.getfield 12, 3) := by decide +kernel
theorem dX10_fire_4 : decode cX10_fire 4 = .ok (.iload_n 1, 1) := by decide +kernel
theorem dX10_fire_5 : decode cX10_fire 5 = .ok (.invokevirtual 171, 3) := by decide +kernel
theorem dX10_fire_8 : decode cX10_fire 8 = .ok (.ifCond .ne 7, 3) := by decide +kernel
theorem dX10_fire_11 : decode cX10_fire 11 = .ok (.sipush (-10001), 3) := by decide +kernel
theorem dX10_fire_14 : decode cX10_fire 14 = .ok (.ireturn, 1) := by decide +kernel
theorem dX10_fire_15 : decode cX10_fire 15 = .ok (.aload_n 0, 1) := by decide +kernel
theorem dX10_fire_16 : decode cX10_fire 16 = .ok (.getfield 53, 3) := by decide +kernel
theorem dX10_fire_19 : decode cX10_fire 19 = .ok (.aload_n 0, 1) := by decide +kernel
theorem dX10_fire_20 : decode cX10_fire 20 = .ok (.getfield 80, 3) := by decide +kernel
theorem dX10_fire_23 : decode cX10_fire 23 = .ok (.iload_n 1, 1) := by decide +kernel
theorem dX10_fire_24 : decode cX10_fire 24 = .ok (.invokevirtual 178, 3) := by decide +kernel
theorem dX10_fire_27 : decode cX10_fire 27 = .ok (.ifCond .ne 7, 3) := by decide +kernel
theorem dX10_fire_30 : decode cX10_fire 30 = .ok (.sipush (-10004), 3) := by decide +kernel
theorem dX10_fire_33 : decode cX10_fire 33 = .ok (.ireturn, 1) := by decide +kernel
theorem dX10_fire_34 : decode cX10_fire 34 = .ok (.aload_n 0, 1) := by decide +kernel
theorem dX10_fire_35 : decode cX10_fire 35 = .ok (.getfield 28, 3) := by decide +kernel
theorem dX10_fire_38 : decode cX10_fire 38 = .ok (.aload_n 0, 1) := by decide +kernel
theorem dX10_fire_39 : decode cX10_fire 39 = .ok (.getfield 80, 3) := by decide +kernel
theorem dX10_fire_42 : decode cX10_fire 42 = .ok (.invokevirtual 174, 3) := by decide +kernel
theorem dX10_fire_45 : decode cX10_fire 45 = .ok (.aload_n 0, 1) := by decide +kernel
theorem dX10_fire_46 : decode cX10_fire 46 = .ok (.getfield 53, 3) := by decide +kernel
theorem dX10_fire_49 : decode cX10_fire 49 = .ok (.aload_n 0, 1) := by decide +kernel
theorem dX10_fire_50 : decode cX10_fire 50 = .ok (.getfield 80, 3) := by decide +kernel
theorem dX10_fire_53 : decode cX10_fire 53 = .ok (.iload_n 1, 1) := by decide +kernel
theorem dX10_fire_54 : decode cX10_fire 54 = .ok (.iconst 1, 1) := by decide +kernel
theorem dX10_fire_55 : decode cX10_fire 55 = .ok (.invokevirtual 182, 3) := by decide +kernel
theorem dX10_fire_58 : decode cX10_fire 58 = .ok (.aload_n 0, 1) := by decide +kernel
theorem dX10_fire_59 : decode cX10_fire 59 = .ok (.getfield 80, 3) := by decide +kernel
theorem dX10_fire_62 : decode cX10_fire 62 = .ok (.iload_n 1, 1) := by decide +kernel
theorem dX10_fire_63 : decode cX10_fire 63 = .ok (.iaload, 1) := by decide +kernel
theorem dX10_fire_64 : decode cX10_fire 64 = .ok (.ireturn, 1) := by decide +kernel
theorem dX10_stabilize_0 : decode cX10_stabilize 0 = .ok (.aload_n 0, 1) := by decide +kernel
theorem dX10_stabilize_1 : decode cX10_stabilize 1 = .ok (.getfield 12, 3) := by decide +kernel
theorem dX10_stabilize_4 : decode cX10_stabilize 4 = .ok (.invokevirtual 147, 3) := by decide +kernel
theorem dX10_stabilize_7 : decode cX10_stabilize 7 = .ok (.ifCond .ne 7, 3) := by decide +kernel
theorem dX10_stabilize_10 : decode cX10_stabilize 10 = .ok (.sipush (-10003), 3) := by decide +kernel
theorem dX10_stabilize_13 : decode cX10_stabilize 13 = .ok (.ireturn, 1) := by decide +kernel
theorem dX10_stabilize_14 : decode cX10_stabilize 14 = .ok (.aload_n 0, 1) := by decide +kernel
theorem dX10_stabilize_15 : decode cX10_stabilize 15 = .ok (.getfield 28, 3) := by decide +kernel
theorem dX10_stabilize_18 : decode cX10_stabilize 18 = .ok (.aload_n 0, 1) := by decide +kernel
theorem dX10_stabilize_19 : decode cX10_stabilize 19 = .ok (.getfield 80, 3) := by decide +kernel
theorem dX10_stabilize_22 : decode cX10_stabilize 22 = .ok (.invokevirtual 174, 3) := by decide +kernel
theorem dX10_stabilize_25 : decode cX10_stabilize 25 = .ok (.aload_n 0, 1) := by decide +kernel
theorem dX10_stabilize_26 : decode cX10_stabilize 26 = .ok (.getfield 53, 3) := by decide +kernel
theorem dX10_stabilize_29 : decode cX10_stabilize 29 = .ok (.aload_n 0, 1) := by decide +kernel
theorem dX10_stabilize_30 : decode cX10_stabilize 30 = .ok (.getfield 80, 3) := by decide +kernel
theorem dX10_stabilize_33 : decode cX10_stabilize 33 = .ok (.invokevirtual 186, 3) := by decide +kernel
theorem dX10_stabilize_36 : decode cX10_stabilize 36 = .ok (.ireturn, 1) := by decide +kernel
theorem dX10_firings_0 : decode cX10_firings 0 = .ok (.aload_n 0, 1) := by decide +kernel
theorem dX10_firings_1 : decode cX10_firings 1 = .ok (.getfield 12, 3) := by decide +kernel
theorem dX10_firings_4 : decode cX10_firings 4 = .ok (.iload_n 1, 1) := by decide +kernel
theorem dX10_firings_5 : decode cX10_firings 5 = .ok (.invokevirtual 171, 3) := by decide +kernel
theorem dX10_firings_8 : decode cX10_firings 8 = .ok (.ifCond .ne 7, 3) := by decide +kernel
theorem dX10_firings_11 : decode cX10_firings 11 = .ok (.sipush (-10001), 3) := by decide +kernel
theorem dX10_firings_14 : decode cX10_firings 14 = .ok (.ireturn, 1) := by decide +kernel
theorem dX10_firings_15 : decode cX10_firings 15 = .ok (.aload_n 0, 1) := by decide +kernel
theorem dX10_firings_16 : decode cX10_firings 16 = .ok (.getfield 12, 3) := by decide +kernel
theorem dX10_firings_19 : decode cX10_firings 19 = .ok (.invokevirtual 147, 3) := by decide +kernel
theorem dX10_firings_22 : decode cX10_firings 22 = .ok (.ifCond .ne 7, 3) := by decide +kernel
theorem dX10_firings_25 : decode cX10_firings 25 = .ok (.sipush (-10003), 3) := by decide +kernel
theorem dX10_firings_28 : decode cX10_firings 28 = .ok (.ireturn, 1) := by decide +kernel
theorem dX10_firings_29 : decode cX10_firings 29 = .ok (.aload_n 0, 1) := by decide +kernel
theorem dX10_firings_30 : decode cX10_firings 30 = .ok (.getfield 80, 3) := by decide +kernel
theorem dX10_firings_33 : decode cX10_firings 33 = .ok (.aload_n 0, 1) := by decide +kernel
theorem dX10_firings_34 : decode cX10_firings 34 = .ok (.getfield 84, 3) := by decide +kernel
theorem dX10_firings_37 : decode cX10_firings 37 = .ok (.invokestatic 189, 3) := by decide +kernel
theorem dX10_firings_40 : decode cX10_firings 40 = .ok (.aload_n 0, 1) := by decide +kernel
theorem dX10_firings_41 : decode cX10_firings 41 = .ok (.getfield 53, 3) := by decide +kernel
theorem dX10_firings_44 : decode cX10_firings 44 = .ok (.aload_n 0, 1) := by decide +kernel
theorem dX10_firings_45 : decode cX10_firings 45 = .ok (.getfield 84, 3) := by decide +kernel
theorem dX10_firings_48 : decode cX10_firings 48 = .ok (.invokevirtual 186, 3) := by decide +kernel
theorem dX10_firings_51 : decode cX10_firings 51 = .ok (.pop, 1) := by decide +kernel
theorem dX10_firings_52 : decode cX10_firings 52 = .ok (.aload_n 0, 1) := by decide +kernel
theorem dX10_firings_53 : decode cX10_firings 53 = .ok (.getfield 53, 3) := by decide +kernel
theorem dX10_firings_56 : decode cX10_firings 56 = .ok (.getfield 193, 3) := by decide +kernel
theorem dX10_firings_59 : decode cX10_firings 59 = .ok (.iload_n 1, 1) := by decide +kernel
theorem dX10_firings_60 : decode cX10_firings 60 = .ok (.iaload, 1) := by decide +kernel
theorem dX10_firings_61 : decode cX10_firings 61 = .ok (.ireturn, 1) := by decide +kernel
theorem dX10_reduce_0 : decode cX10_reduce 0 = .ok (.aload_n 0, 1) := by decide +kernel
theorem dX10_reduce_1 : decode cX10_reduce 1 = .ok (.getfield 12, 3) := by decide +kernel
theorem dX10_reduce_4 : decode cX10_reduce 4 = .ok (.invokevirtual 147, 3) := by decide +kernel
theorem dX10_reduce_7 : decode cX10_reduce 7 = .ok (.ifCond .ne 7, 3) := by decide +kernel
theorem dX10_reduce_10 : decode cX10_reduce 10 = .ok (.sipush (-10003), 3) := by decide +kernel
theorem dX10_reduce_13 : decode cX10_reduce 13 = .ok (.ireturn, 1) := by decide +kernel
theorem dX10_reduce_14 : decode cX10_reduce 14 = .ok (.aload_n 0, 1) := by decide +kernel
theorem dX10_reduce_15 : decode cX10_reduce 15 = .ok (.getfield 28, 3) := by decide +kernel
theorem dX10_reduce_18 : decode cX10_reduce 18 = .ok (.aload_n 0, 1) := by decide +kernel
theorem dX10_reduce_19 : decode cX10_reduce 19 = .ok (.getfield 80, 3) := by decide +kernel
theorem dX10_reduce_22 : decode cX10_reduce 22 = .ok (.invokevirtual 174, 3) := by decide +kernel
theorem dX10_reduce_25 : decode cX10_reduce 25 = .ok (.aload_n 0, 1) := by decide +kernel
theorem dX10_reduce_26 : decode cX10_reduce 26 = .ok (.getfield 53, 3) := by decide +kernel
theorem dX10_reduce_29 : decode cX10_reduce 29 = .ok (.aload_n 0, 1) := by decide +kernel
theorem dX10_reduce_30 : decode cX10_reduce 30 = .ok (.getfield 80, 3) := by decide +kernel
theorem dX10_reduce_33 : decode cX10_reduce 33 = .ok (.invokevirtual 186, 3) := by decide +kernel
theorem dX10_reduce_36 : decode cX10_reduce 36 = .ok (.pop, 1) := by decide +kernel
theorem dX10_reduce_37 : decode cX10_reduce 37 = .ok (.aload_n 0, 1) := by decide +kernel
theorem dX10_reduce_38 : decode cX10_reduce 38 = .ok (.getfield 53, 3) := by decide +kernel
theorem dX10_reduce_41 : decode cX10_reduce 41 = .ok (.aload_n 0, 1) := by decide +kernel
theorem dX10_reduce_42 : decode cX10_reduce 42 = .ok (.getfield 80, 3) := by decide +kernel
theorem dX10_reduce_45 : decode cX10_reduce 45 = .ok (.invokevirtual 196, 3) := by decide +kernel
theorem dX10_reduce_48 : decode cX10_reduce 48 = .ok (.ireturn, 1) := by decide +kernel
theorem dX10_makeRecurrent_0 : decode cX10_makeRecurrent 0 = .ok (.aload_n 0, 1) := by decide +kernel
theorem dX10_makeRecurrent_1 : decode cX10_makeRecurrent 1 = .ok (.getfield 12, 3) := by decide +kernel
theorem dX10_makeRecurrent_4 : decode cX10_makeRecurrent 4 = .ok (.invokevirtual 147, 3) := by decide +kernel
theorem dX10_makeRecurrent_7 : decode cX10_makeRecurrent 7 = .ok (.ifCond .ne 7, 3) := by decide +kernel
theorem dX10_makeRecurrent_10 : decode cX10_makeRecurrent 10 = .ok (.sipush (-10003), 3) := by decide +kernel
theorem dX10_makeRecurrent_13 : decode cX10_makeRecurrent 13 = .ok (.ireturn, 1) := by decide +kernel
theorem dX10_makeRecurrent_14 : decode cX10_makeRecurrent 14 = .ok (.aload_n 0, 1) := by decide +kernel
theorem dX10_makeRecurrent_15 : decode cX10_makeRecurrent 15 = .ok (.getfield 28, 3) := by decide +kernel
theorem dX10_makeRecurrent_18 : decode cX10_makeRecurrent 18 = .ok (.aload_n 0, 1) := by decide +kernel
theorem dX10_makeRecurrent_19 : decode cX10_makeRecurrent 19 = .ok (.getfield 80, 3) := by decide +kernel
theorem dX10_makeRecurrent_22 : decode cX10_makeRecurrent 22 = .ok (.invokevirtual 174, 3) := by decide +kernel
theorem dX10_makeRecurrent_25 : decode cX10_makeRecurrent 25 = .ok (.aload_n 0, 1) := by decide +kernel
theorem dX10_makeRecurrent_26 : decode cX10_makeRecurrent 26 = .ok (.getfield 80, 3) := by decide +kernel
theorem dX10_makeRecurrent_29 : decode cX10_makeRecurrent 29 = .ok (.aload_n 0, 1) := by decide +kernel
theorem dX10_makeRecurrent_30 : decode cX10_makeRecurrent 30 = .ok (.getfield 84, 3) := by decide +kernel
theorem dX10_makeRecurrent_33 : decode cX10_makeRecurrent 33 = .ok (.invokestatic 189, 3) := by decide +kernel
theorem dX10_makeRecurrent_36 : decode cX10_makeRecurrent 36 = .ok (.aload_n 0, 1) := by decide +kernel
theorem dX10_makeRecurrent_37 : decode cX10_makeRecurrent 37 = .ok (.getfield 53, 3) := by decide +kernel
theorem dX10_makeRecurrent_40 : decode cX10_makeRecurrent 40 = .ok (.aload_n 0, 1) := by decide +kernel
theorem dX10_makeRecurrent_41 : decode cX10_makeRecurrent 41 = .ok (.getfield 80, 3) := by decide +kernel
theorem dX10_makeRecurrent_44 : decode cX10_makeRecurrent 44 = .ok (.invokevirtual 199, 3) := by decide +kernel
theorem dX10_makeRecurrent_47 : decode cX10_makeRecurrent 47 = .ok (.aload_n 0, 1) := by decide +kernel
theorem dX10_makeRecurrent_48 : decode cX10_makeRecurrent 48 = .ok (.getfield 80, 3) := by decide +kernel
theorem dX10_makeRecurrent_51 : decode cX10_makeRecurrent 51 = .ok (.aload_n 0, 1) := by decide +kernel
theorem dX10_makeRecurrent_52 : decode cX10_makeRecurrent 52 = .ok (.getfield 84, 3) := by decide +kernel
theorem dX10_makeRecurrent_55 : decode cX10_makeRecurrent 55 = .ok (.invokestatic 202, 3) := by decide +kernel
theorem dX10_makeRecurrent_58 : decode cX10_makeRecurrent 58 = .ok (.ifCond .eq 7, 3) := by decide +kernel
theorem dX10_makeRecurrent_61 : decode cX10_makeRecurrent 61 = .ok (.iconst 0, 1) := by decide +kernel
theorem dX10_makeRecurrent_62 : decode cX10_makeRecurrent 62 = .ok (.goto 4, 3) := by decide +kernel
theorem dX10_makeRecurrent_65 : decode cX10_makeRecurrent 65 = .ok (.iconst 1, 1) := by decide +kernel
theorem dX10_makeRecurrent_66 : decode cX10_makeRecurrent 66 = .ok (.ireturn, 1) := by decide +kernel
theorem dX10_kind_0 : decode cX10_kind 0 = .ok (.aload_n 0, 1) := by decide +kernel
theorem dX10_kind_1 : decode cX10_kind 1 = .ok (.getfield 53, 3) := by decide +kernel
theorem dX10_kind_4 : decode cX10_kind 4 = .ok (.aload_n 0, 1) := by decide +kernel
theorem dX10_kind_5 : decode cX10_kind 5 = .ok (.getfield 80, 3) := by decide +kernel
theorem dX10_kind_8 : decode cX10_kind 8 = .ok (.invokevirtual 206, 3) := by decide +kernel
theorem dX10_kind_11 : decode cX10_kind 11 = .ok (.ifCond .eq 7, 3) := by decide +kernel
theorem dX10_kind_14 : decode cX10_kind 14 = .ok (.iconst 1, 1) := by decide +kernel
theorem dX10_kind_15 : decode cX10_kind 15 = .ok (.goto 4, 3) := by decide +kernel
theorem dX10_kind_18 : decode cX10_kind 18 = .ok (.iconst 0, 1) := by decide +kernel
theorem dX10_kind_19 : decode cX10_kind 19 = .ok (.istore_n 1, 1) := by decide +kernel
theorem dX10_kind_20 : decode cX10_kind 20 = .ok (.aload_n 0, 1) := by decide +kernel
theorem dX10_kind_21 : decode cX10_kind 21 = .ok (.invokevirtual 210, 3) := by decide +kernel
theorem dX10_kind_24 : decode cX10_kind 24 = .ok (.ifCond .eq 6, 3) := by decide +kernel
theorem dX10_kind_27 : decode cX10_kind 27 = .ok (.iinc 1 2, 3) := by decide +kernel
theorem dX10_kind_30 : decode cX10_kind 30 = .ok (.aload_n 0, 1) := by decide +kernel
theorem dX10_kind_31 : decode cX10_kind 31 = .ok (.getfield 12, 3) := by decide +kernel
theorem dX10_kind_34 : decode cX10_kind 34 = .ok (.invokevirtual 147, 3) := by decide +kernel
theorem dX10_kind_37 : decode cX10_kind 37 = .ok (.ifCond .eq 20, 3) := by decide +kernel
theorem dX10_kind_40 : decode cX10_kind 40 = .ok (.aload_n 0, 1) := by decide +kernel
theorem dX10_kind_41 : decode cX10_kind 41 = .ok (.getfield 44, 3) := by decide +kernel
theorem dX10_kind_44 : decode cX10_kind 44 = .ok (.aload_n 0, 1) := by decide +kernel
theorem dX10_kind_45 : decode cX10_kind 45 = .ok (.getfield 80, 3) := by decide +kernel
theorem dX10_kind_48 : decode cX10_kind 48 = .ok (.invokevirtual 213, 3) := by decide +kernel
theorem dX10_kind_51 : decode cX10_kind 51 = .ok (.ifCond .eq 6, 3) := by decide +kernel
theorem dX10_kind_54 : decode cX10_kind 54 = .ok (.iinc 1 4, 3) := by decide +kernel
theorem dX10_kind_57 : decode cX10_kind 57 = .ok (.iload_n 1, 1) := by decide +kernel
theorem dX10_kind_58 : decode cX10_kind 58 = .ok (.ireturn, 1) := by decide +kernel
theorem dX10_burnt_0 : decode cX10_burnt 0 = .ok (.aload_n 0, 1) := by decide +kernel
theorem dX10_burnt_1 : decode cX10_burnt 1 = .ok (.getfield 12, 3) := by decide +kernel
theorem dX10_burnt_4 : decode cX10_burnt 4 = .ok (.iload_n 1, 1) := by decide +kernel
theorem dX10_burnt_5 : decode cX10_burnt 5 = .ok (.invokevirtual 105, 3) := by decide +kernel
theorem dX10_burnt_8 : decode cX10_burnt 8 = .ok (.ifCond .ne 7, 3) := by decide +kernel
theorem dX10_burnt_11 : decode cX10_burnt 11 = .ok (.sipush (-10001), 3) := by decide +kernel
theorem dX10_burnt_14 : decode cX10_burnt 14 = .ok (.ireturn, 1) := by decide +kernel
theorem dX10_burnt_15 : decode cX10_burnt 15 = .ok (.aload_n 0, 1) := by decide +kernel
theorem dX10_burnt_16 : decode cX10_burnt 16 = .ok (.getfield 44, 3) := by decide +kernel
theorem dX10_burnt_19 : decode cX10_burnt 19 = .ok (.aload_n 0, 1) := by decide +kernel
theorem dX10_burnt_20 : decode cX10_burnt 20 = .ok (.getfield 80, 3) := by decide +kernel
theorem dX10_burnt_23 : decode cX10_burnt 23 = .ok (.invokevirtual 216, 3) := by decide +kernel
theorem dX10_burnt_26 : decode cX10_burnt 26 = .ok (.pop, 1) := by decide +kernel
theorem dX10_burnt_27 : decode cX10_burnt 27 = .ok (.aload_n 0, 1) := by decide +kernel
theorem dX10_burnt_28 : decode cX10_burnt 28 = .ok (.getfield 44, 3) := by decide +kernel
theorem dX10_burnt_31 : decode cX10_burnt 31 = .ok (.iload_n 1, 1) := by decide +kernel
theorem dX10_burnt_32 : decode cX10_burnt 32 = .ok (.invokevirtual 219, 3) := by decide +kernel
theorem dX10_burnt_35 : decode cX10_burnt 35 = .ok (.ifCond .eq 15, 3) := by decide +kernel
theorem dX10_burnt_38 : decode cX10_burnt 38 = .ok (.aload_n 0, 1) := by decide +kernel
theorem dX10_burnt_39 : decode cX10_burnt 39 = .ok (.getfield 44, 3) := by decide +kernel
theorem dX10_burnt_42 : decode cX10_burnt 42 = .ok (.getfield 222, 3) := by decide +kernel
theorem dX10_burnt_45 : decode cX10_burnt 45 = .ok (.iload_n 1, 1) := by decide +kernel
theorem dX10_burnt_46 : decode cX10_burnt 46 = .ok (.iaload, 1) := by decide +kernel
theorem dX10_burnt_47 : decode cX10_burnt 47 = .ok (.goto 6, 3) := by decide +kernel
theorem dX10_burnt_50 : decode cX10_burnt 50 = .ok (.sipush (-10007), 3) := by decide +kernel
theorem dX10_burnt_53 : decode cX10_burnt 53 = .ok (.ireturn, 1) := by decide +kernel
theorem dX10_undo_0 : decode cX10_undo 0 = .ok (.aload_n 0, 1) := by decide +kernel
theorem dX10_undo_1 : decode cX10_undo 1 = .ok (.getfield 28, 3) := by decide +kernel
theorem dX10_undo_4 : decode cX10_undo 4 = .ok (.getfield 155, 3) := by decide +kernel
theorem dX10_undo_7 : decode cX10_undo 7 = .ok (.ifCond .ne 7, 3) := by decide +kernel
theorem dX10_undo_10 : decode cX10_undo 10 = .ok (.sipush (-10007), 3) := by decide +kernel
theorem dX10_undo_13 : decode cX10_undo 13 = .ok (.ireturn, 1) := by decide +kernel
theorem dX10_undo_14 : decode cX10_undo 14 = .ok (.aload_n 0, 1) := by decide +kernel
theorem dX10_undo_15 : decode cX10_undo 15 = .ok (.getfield 28, 3) := by decide +kernel
theorem dX10_undo_18 : decode cX10_undo 18 = .ok (.aload_n 0, 1) := by decide +kernel
theorem dX10_undo_19 : decode cX10_undo 19 = .ok (.getfield 80, 3) := by decide +kernel
theorem dX10_undo_22 : decode cX10_undo 22 = .ok (.invokevirtual 225, 3) := by decide +kernel
theorem dX10_undo_25 : decode cX10_undo 25 = .ok (.aload_n 0, 1) := by decide +kernel
theorem dX10_undo_26 : decode cX10_undo 26 = .ok (.getfield 28, 3) := by decide +kernel
theorem dX10_undo_29 : decode cX10_undo 29 = .ok (.getfield 155, 3) := by decide +kernel
theorem dX10_undo_32 : decode cX10_undo 32 = .ok (.ireturn, 1) := by decide +kernel
theorem dX10_keep_0 : decode cX10_keep 0 = .ok (.aload_n 0, 1) := by decide +kernel
theorem dX10_keep_1 : decode cX10_keep 1 = .ok (.getfield 35, 3) := by decide +kernel
theorem dX10_keep_4 : decode cX10_keep 4 = .ok (.iload_n 1, 1) := by decide +kernel
theorem dX10_keep_5 : decode cX10_keep 5 = .ok (.invokevirtual 228, 3) := by decide +kernel
theorem dX10_keep_8 : decode cX10_keep 8 = .ok (.ifCond .ne 7, 3) := by decide +kernel
theorem dX10_keep_11 : decode cX10_keep 11 = .ok (.sipush (-10001), 3) := by decide +kernel
theorem dX10_keep_14 : decode cX10_keep 14 = .ok (.ireturn, 1) := by decide +kernel
theorem dX10_keep_15 : decode cX10_keep 15 = .ok (.aload_n 0, 1) := by decide +kernel
theorem dX10_keep_16 : decode cX10_keep 16 = .ok (.getfield 35, 3) := by decide +kernel
theorem dX10_keep_19 : decode cX10_keep 19 = .ok (.iload_n 1, 1) := by decide +kernel
theorem dX10_keep_20 : decode cX10_keep 20 = .ok (.invokevirtual 231, 3) := by decide +kernel
theorem dX10_keep_23 : decode cX10_keep 23 = .ok (.ifCond .eq 7, 3) := by decide +kernel
theorem dX10_keep_26 : decode cX10_keep 26 = .ok (.iconst 1, 1) := by decide +kernel
theorem dX10_keep_27 : decode cX10_keep 27 = .ok (.goto 4, 3) := by decide +kernel
theorem dX10_keep_30 : decode cX10_keep 30 = .ok (.iconst 0, 1) := by decide +kernel
theorem dX10_keep_31 : decode cX10_keep 31 = .ok (.istore_n 2, 1) := by decide +kernel
theorem dX10_keep_32 : decode cX10_keep 32 = .ok (.aload_n 0, 1) := by decide +kernel
theorem dX10_keep_33 : decode cX10_keep 33 = .ok (.getfield 35, 3) := by decide +kernel
theorem dX10_keep_36 : decode cX10_keep 36 = .ok (.iload_n 1, 1) := by decide +kernel
theorem dX10_keep_37 : decode cX10_keep 37 = .ok (.aload_n 0, 1) := by decide +kernel
theorem dX10_keep_38 : decode cX10_keep 38 = .ok (.getfield 80, 3) := by decide +kernel
theorem dX10_keep_41 : decode cX10_keep 41 = .ok (.invokevirtual 234, 3) := by decide +kernel
theorem dX10_keep_44 : decode cX10_keep 44 = .ok (.iload_n 2, 1) := by decide +kernel
theorem dX10_keep_45 : decode cX10_keep 45 = .ok (.ireturn, 1) := by decide +kernel
theorem dX10_load_0 : decode cX10_load 0 = .ok (.aload_n 0, 1) := by decide +kernel
theorem dX10_load_1 : decode cX10_load 1 = .ok (.getfield 35, 3) := by decide +kernel
theorem dX10_load_4 : decode cX10_load 4 = .ok (.iload_n 1, 1) := by decide +kernel
theorem dX10_load_5 : decode cX10_load 5 = .ok (.invokevirtual 228, 3) := by decide +kernel
theorem dX10_load_8 : decode cX10_load 8 = .ok (.ifCond .ne 7, 3) := by decide +kernel
theorem dX10_load_11 : decode cX10_load 11 = .ok (.sipush (-10001), 3) := by decide +kernel
theorem dX10_load_14 : decode cX10_load 14 = .ok (.ireturn, 1) := by decide +kernel
theorem dX10_load_15 : decode cX10_load 15 = .ok (.aload_n 0, 1) := by decide +kernel
theorem dX10_load_16 : decode cX10_load 16 = .ok (.getfield 35, 3) := by decide +kernel
theorem dX10_load_19 : decode cX10_load 19 = .ok (.iload_n 1, 1) := by decide +kernel
theorem dX10_load_20 : decode cX10_load 20 = .ok (.invokevirtual 231, 3) := by decide +kernel
theorem dX10_load_23 : decode cX10_load 23 = .ok (.ifCond .eq 7, 3) := by decide +kernel
theorem dX10_load_26 : decode cX10_load 26 = .ok (.sipush (-10004), 3) := by decide +kernel
theorem dX10_load_29 : decode cX10_load 29 = .ok (.ireturn, 1) := by decide +kernel
theorem dX10_load_30 : decode cX10_load 30 = .ok (.aload_n 0, 1) := by decide +kernel
theorem dX10_load_31 : decode cX10_load 31 = .ok (.getfield 28, 3) := by decide +kernel
theorem dX10_load_34 : decode cX10_load 34 = .ok (.aload_n 0, 1) := by decide +kernel
theorem dX10_load_35 : decode cX10_load 35 = .ok (.getfield 80, 3) := by decide +kernel
theorem dX10_load_38 : decode cX10_load 38 = .ok (.invokevirtual 174, 3) := by decide +kernel
theorem dX10_load_41 : decode cX10_load 41 = .ok (.aload_n 0, 1) := by decide +kernel
theorem dX10_load_42 : decode cX10_load 42 = .ok (.getfield 35, 3) := by decide +kernel
theorem dX10_load_45 : decode cX10_load 45 = .ok (.iload_n 1, 1) := by decide +kernel
theorem dX10_load_46 : decode cX10_load 46 = .ok (.aload_n 0, 1) := by decide +kernel
theorem dX10_load_47 : decode cX10_load 47 = .ok (.getfield 80, 3) := by decide +kernel
theorem dX10_load_50 : decode cX10_load 50 = .ok (.invokevirtual 238, 3) := by decide +kernel
theorem dX10_load_53 : decode cX10_load 53 = .ok (.aload_n 0, 1) := by decide +kernel
theorem dX10_load_54 : decode cX10_load 54 = .ok (.getfield 80, 3) := by decide +kernel
theorem dX10_load_57 : decode cX10_load 57 = .ok (.invokestatic 151, 3) := by decide +kernel
theorem dX10_load_60 : decode cX10_load 60 = .ok (.ireturn, 1) := by decide +kernel
theorem dX10_add_0 : decode cX10_add 0 = .ok (.aload_n 0, 1) := by decide +kernel
theorem dX10_add_1 : decode cX10_add 1 = .ok (.getfield 35, 3) := by decide +kernel
theorem dX10_add_4 : decode cX10_add 4 = .ok (.iload_n 1, 1) := by decide +kernel
theorem dX10_add_5 : decode cX10_add 5 = .ok (.invokevirtual 228, 3) := by decide +kernel
theorem dX10_add_8 : decode cX10_add 8 = .ok (.ifCond .ne 7, 3) := by decide +kernel
theorem dX10_add_11 : decode cX10_add 11 = .ok (.sipush (-10001), 3) := by decide +kernel
theorem dX10_add_14 : decode cX10_add 14 = .ok (.ireturn, 1) := by decide +kernel
theorem dX10_add_15 : decode cX10_add 15 = .ok (.aload_n 0, 1) := by decide +kernel
theorem dX10_add_16 : decode cX10_add 16 = .ok (.getfield 35, 3) := by decide +kernel
theorem dX10_add_19 : decode cX10_add 19 = .ok (.iload_n 1, 1) := by decide +kernel
theorem dX10_add_20 : decode cX10_add 20 = .ok (.invokevirtual 231, 3) := by decide +kernel
theorem dX10_add_23 : decode cX10_add 23 = .ok (.ifCond .eq 7, 3) := by decide +kernel
theorem dX10_add_26 : decode cX10_add 26 = .ok (.sipush (-10004), 3) := by decide +kernel
theorem dX10_add_29 : decode cX10_add 29 = .ok (.ireturn, 1) := by decide +kernel
theorem dX10_add_30 : decode cX10_add 30 = .ok (.aload_n 0, 1) := by decide +kernel
theorem dX10_add_31 : decode cX10_add 31 = .ok (.getfield 35, 3) := by decide +kernel
theorem dX10_add_34 : decode cX10_add 34 = .ok (.iload_n 1, 1) := by decide +kernel
theorem dX10_add_35 : decode cX10_add 35 = .ok (.aload_n 0, 1) := by decide +kernel
theorem dX10_add_36 : decode cX10_add 36 = .ok (.getfield 84, 3) := by decide +kernel
theorem dX10_add_39 : decode cX10_add 39 = .ok (.invokevirtual 238, 3) := by decide +kernel
theorem dX10_add_42 : decode cX10_add 42 = .ok (.iconst 0, 1) := by decide +kernel
theorem dX10_add_43 : decode cX10_add 43 = .ok (.istore_n 2, 1) := by decide +kernel
theorem dX10_add_44 : decode cX10_add 44 = .ok (.iload_n 2, 1) := by decide +kernel
theorem dX10_add_45 : decode cX10_add 45 = .ok (.bipush 8, 2) := by decide +kernel
theorem dX10_add_47 : decode cX10_add 47 = .ok (.if_icmp .ge 40, 3) := by decide +kernel
theorem dX10_add_50 : decode cX10_add 50 = .ok (.aload_n 0, 1) := by decide +kernel
theorem dX10_add_51 : decode cX10_add 51 = .ok (.getfield 84, 3) := by decide +kernel
theorem dX10_add_54 : decode cX10_add 54 = .ok (.iload_n 2, 1) := by decide +kernel
theorem dX10_add_55 : decode cX10_add 55 = .ok (.dup2, 1) := by decide +kernel
theorem dX10_add_56 : decode cX10_add 56 = .ok (.iaload, 1) := by decide +kernel
theorem dX10_add_57 : decode cX10_add 57 = .ok (.aload_n 0, 1) := by decide +kernel
theorem dX10_add_58 : decode cX10_add 58 = .ok (.getfield 80, 3) := by decide +kernel
theorem dX10_add_61 : decode cX10_add 61 = .ok (.iload_n 2, 1) := by decide +kernel
theorem dX10_add_62 : decode cX10_add 62 = .ok (.iaload, 1) := by decide +kernel
theorem dX10_add_63 : decode cX10_add 63 = .ok (.iadd, 1) := by decide +kernel
theorem dX10_add_64 : decode cX10_add 64 = .ok (.iastore, 1) := by decide +kernel
theorem dX10_add_65 : decode cX10_add 65 = .ok (.aload_n 0, 1) := by decide +kernel
theorem dX10_add_66 : decode cX10_add 66 = .ok (.getfield 84, 3) := by decide +kernel
theorem dX10_add_69 : decode cX10_add 69 = .ok (.iload_n 2, 1) := by decide +kernel
theorem dX10_add_70 : decode cX10_add 70 = .ok (.iaload, 1) := by decide +kernel
theorem dX10_add_71 : decode cX10_add 71 = .ok (.sipush 2000, 3) := by decide +kernel
theorem dX10_add_74 : decode cX10_add 74 = .ok (.if_icmp .le 7, 3) := by decide +kernel
theorem dX10_add_77 : decode cX10_add 77 = .ok (.sipush (-10005), 3) := by decide +kernel
theorem dX10_add_80 : decode cX10_add 80 = .ok (.ireturn, 1) := by decide +kernel
theorem dX10_add_81 : decode cX10_add 81 = .ok (.iinc 2 1, 3) := by decide +kernel
theorem dX10_add_84 : decode cX10_add 84 = .ok (.goto (-40), 3) := by decide +kernel
theorem dX10_add_87 : decode cX10_add 87 = .ok (.aload_n 0, 1) := by decide +kernel
theorem dX10_add_88 : decode cX10_add 88 = .ok (.getfield 28, 3) := by decide +kernel
theorem dX10_add_91 : decode cX10_add 91 = .ok (.aload_n 0, 1) := by decide +kernel
theorem dX10_add_92 : decode cX10_add 92 = .ok (.getfield 80, 3) := by decide +kernel
theorem dX10_add_95 : decode cX10_add 95 = .ok (.invokevirtual 174, 3) := by decide +kernel
theorem dX10_add_98 : decode cX10_add 98 = .ok (.aload_n 0, 1) := by decide +kernel
theorem dX10_add_99 : decode cX10_add 99 = .ok (.getfield 84, 3) := by decide +kernel
theorem dX10_add_102 : decode cX10_add 102 = .ok (.aload_n 0, 1) := by decide +kernel
theorem dX10_add_103 : decode cX10_add 103 = .ok (.getfield 80, 3) := by decide +kernel
theorem dX10_add_106 : decode cX10_add 106 = .ok (.invokestatic 189, 3) := by decide +kernel
theorem dX10_add_109 : decode cX10_add 109 = .ok (.aload_n 0, 1) := by decide +kernel
theorem dX10_add_110 : decode cX10_add 110 = .ok (.getfield 80, 3) := by decide +kernel
theorem dX10_add_113 : decode cX10_add 113 = .ok (.invokestatic 151, 3) := by decide +kernel
theorem dX10_add_116 : decode cX10_add 116 = .ok (.ireturn, 1) := by decide +kernel
theorem dX10_isSameClass_0 : decode cX10_isSameClass 0 = .ok (.aload_n 0, 1) := by decide +kernel
theorem dX10_isSameClass_1 : decode cX10_isSameClass 1 = .ok (.getfield 35, 3) := by decide +kernel
theorem dX10_isSameClass_4 : decode cX10_isSameClass 4 = .ok (.iload_n 1, 1) := by decide +kernel
theorem dX10_isSameClass_5 : decode cX10_isSameClass 5 = .ok (.invokevirtual 228, 3) := by decide +kernel
theorem dX10_isSameClass_8 : decode cX10_isSameClass 8 = .ok (.ifCond .ne 7, 3) := by decide +kernel
theorem dX10_isSameClass_11 : decode cX10_isSameClass 11 = .ok (.sipush (-10001), 3) := by decide +kernel
theorem dX10_isSameClass_14 : decode cX10_isSameClass 14 = .ok (.ireturn, 1) := by decide +kernel
theorem dX10_isSameClass_15 : decode cX10_isSameClass 15 = .ok (.aload_n 0, 1) := by decide +kernel
theorem dX10_isSameClass_16 : decode cX10_isSameClass 16 = .ok (.getfield 35, 3) := by decide +kernel
theorem dX10_isSameClass_19 : decode cX10_isSameClass 19 = .ok (.iload_n 1, 1) := by decide +kernel
theorem dX10_isSameClass_20 : decode cX10_isSameClass 20 = .ok (.invokevirtual 231, 3) := by decide +kernel
theorem dX10_isSameClass_23 : decode cX10_isSameClass 23 = .ok (.ifCond .eq 7, 3) := by decide +kernel
theorem dX10_isSameClass_26 : decode cX10_isSameClass 26 = .ok (.sipush (-10004), 3) := by decide +kernel
theorem dX10_isSameClass_29 : decode cX10_isSameClass 29 = .ok (.ireturn, 1) := by decide +kernel
theorem dX10_isSameClass_30 : decode cX10_isSameClass 30 = .ok (.aload_n 0, 1) := by decide +kernel
theorem dX10_isSameClass_31 : decode cX10_isSameClass 31 = .ok (.getfield 12, 3) := by decide +kernel
theorem dX10_isSameClass_34 : decode cX10_isSameClass 34 = .ok (.invokevirtual 147, 3) := by decide +kernel
theorem dX10_isSameClass_37 : decode cX10_isSameClass 37 = .ok (.ifCond .ne 7, 3) := by decide +kernel
theorem dX10_isSameClass_40 : decode cX10_isSameClass 40 = .ok (.sipush (-10003), 3) := by decide +kernel
theorem dX10_isSameClass_43 : decode cX10_isSameClass 43 = .ok (.ireturn, 1) := by decide +kernel
theorem dX10_isSameClass_44 : decode cX10_isSameClass 44 = .ok (.aload_n 0, 1) := by decide +kernel
theorem dX10_isSameClass_45 : decode cX10_isSameClass 45 = .ok (.getfield 80, 3) := by decide +kernel
theorem dX10_isSameClass_48 : decode cX10_isSameClass 48 = .ok (.aload_n 0, 1) := by decide +kernel
theorem dX10_isSameClass_49 : decode cX10_isSameClass 49 = .ok (.getfield 84, 3) := by decide +kernel
theorem dX10_isSameClass_52 : decode cX10_isSameClass 52 = .ok (.invokestatic 189, 3) := by decide +kernel
theorem dX10_isSameClass_55 : decode cX10_isSameClass 55 = .ok (.aload_n 0, 1) := by decide +kernel
theorem dX10_isSameClass_56 : decode cX10_isSameClass 56 = .ok (.getfield 35, 3) := by decide +kernel
theorem dX10_isSameClass_59 : decode cX10_isSameClass 59 = .ok (.iload_n 1, 1) := by decide +kernel
theorem dX10_isSameClass_60 : decode cX10_isSameClass 60 = .ok (.aload_n 0, 1) := by decide +kernel
theorem dX10_isSameClass_61 : decode cX10_isSameClass 61 = .ok (.getfield 87, 3) := by decide +kernel
theorem dX10_isSameClass_64 : decode cX10_isSameClass 64 = .ok (.invokevirtual 238, 3) := by decide +kernel
theorem dX10_isSameClass_67 : decode cX10_isSameClass 67 = .ok (.aload_n 0, 1) := by decide +kernel
theorem dX10_isSameClass_68 : decode cX10_isSameClass 68 = .ok (.getfield 53, 3) := by decide +kernel
theorem dX10_isSameClass_71 : decode cX10_isSameClass 71 = .ok (.aload_n 0, 1) := by decide +kernel
theorem dX10_isSameClass_72 : decode cX10_isSameClass 72 = .ok (.getfield 84, 3) := by decide +kernel
theorem dX10_isSameClass_75 : decode cX10_isSameClass 75 = .ok (.invokevirtual 199, 3) := by decide +kernel
theorem dX10_isSameClass_78 : decode cX10_isSameClass 78 = .ok (.aload_n 0, 1) := by decide +kernel
theorem dX10_isSameClass_79 : decode cX10_isSameClass 79 = .ok (.getfield 53, 3) := by decide +kernel
theorem dX10_isSameClass_82 : decode cX10_isSameClass 82 = .ok (.aload_n 0, 1) := by decide +kernel
theorem dX10_isSameClass_83 : decode cX10_isSameClass 83 = .ok (.getfield 87, 3) := by decide +kernel
theorem dX10_isSameClass_86 : decode cX10_isSameClass 86 = .ok (.invokevirtual 199, 3) := by decide +kernel
theorem dX10_isSameClass_89 : decode cX10_isSameClass 89 = .ok (.aload_n 0, 1) := by decide +kernel
theorem dX10_isSameClass_90 : decode cX10_isSameClass 90 = .ok (.getfield 84, 3) := by decide +kernel
theorem dX10_isSameClass_93 : decode cX10_isSameClass 93 = .ok (.aload_n 0, 1) := by decide +kernel
theorem dX10_isSameClass_94 : decode cX10_isSameClass 94 = .ok (.getfield 87, 3) := by decide +kernel
theorem dX10_isSameClass_97 : decode cX10_isSameClass 97 = .ok (.invokestatic 202, 3) := by decide +kernel
theorem dX10_isSameClass_100 : decode cX10_isSameClass 100 = .ok (.ifCond .eq 7, 3) := by decide +kernel
theorem dX10_isSameClass_103 : decode cX10_isSameClass 103 = .ok (.iconst 1, 1) := by decide +kernel
theorem dX10_isSameClass_104 : decode cX10_isSameClass 104 = .ok (.goto 4, 3) := by decide +kernel
theorem dX10_isSameClass_107 : decode cX10_isSameClass 107 = .ok (.iconst 0, 1) := by decide +kernel
theorem dX10_isSameClass_108 : decode cX10_isSameClass 108 = .ok (.ireturn, 1) := by decide +kernel
theorem dX10_treeCount_0 : decode cX10_treeCount 0 = .ok (.aload_n 0, 1) := by decide +kernel
theorem dX10_treeCount_1 : decode cX10_treeCount 1 = .ok (.getfield 69, 3) := by decide +kernel
theorem dX10_treeCount_4 : decode cX10_treeCount 4 = .ok (.iconst 0, 1) := by decide +kernel
theorem dX10_treeCount_5 : decode cX10_treeCount 5 = .ok (.iconst 0, 1) := by decide +kernel
theorem dX10_treeCount_6 : decode cX10_treeCount 6 = .ok (.invokevirtual 241, 3) := by decide +kernel
theorem dX10_treeCount_9 : decode cX10_treeCount 9 = .ok (.lreturn, 1) := by decide +kernel
theorem dX10_identity_0 : decode cX10_identity 0 = .ok (.aload_n 0, 1) := by decide +kernel
theorem dX10_identity_1 : decode cX10_identity 1 = .ok (.getfield 12, 3) := by decide +kernel
theorem dX10_identity_4 : decode cX10_identity 4 = .ok (.iload_n 1, 1) := by decide +kernel
theorem dX10_identity_5 : decode cX10_identity 5 = .ok (.invokevirtual 171, 3) := by decide +kernel
theorem dX10_identity_8 : decode cX10_identity 8 = .ok (.ifCond .ne 7, 3) := by decide +kernel
theorem dX10_identity_11 : decode cX10_identity 11 = .ok (.sipush (-10001), 3) := by decide +kernel
theorem dX10_identity_14 : decode cX10_identity 14 = .ok (.ireturn, 1) := by decide +kernel
theorem dX10_identity_15 : decode cX10_identity 15 = .ok (.aload_n 0, 1) := by decide +kernel
theorem dX10_identity_16 : decode cX10_identity 16 = .ok (.getfield 12, 3) := by decide +kernel
theorem dX10_identity_19 : decode cX10_identity 19 = .ok (.invokevirtual 147, 3) := by decide +kernel
theorem dX10_identity_22 : decode cX10_identity 22 = .ok (.ifCond .ne 7, 3) := by decide +kernel
theorem dX10_identity_25 : decode cX10_identity 25 = .ok (.sipush (-10003), 3) := by decide +kernel
theorem dX10_identity_28 : decode cX10_identity 28 = .ok (.ireturn, 1) := by decide +kernel
theorem dX10_identity_29 : decode cX10_identity 29 = .ok (.aload_n 0, 1) := by decide +kernel
theorem dX10_identity_30 : decode cX10_identity 30 = .ok (.getfield 84, 3) := by decide +kernel
theorem dX10_identity_33 : decode cX10_identity 33 = .ok (.invokestatic 244, 3) := by decide +kernel
theorem dX10_identity_36 : decode cX10_identity 36 = .ok (.aload_n 0, 1) := by decide +kernel
theorem dX10_identity_37 : decode cX10_identity 37 = .ok (.getfield 53, 3) := by decide +kernel
theorem dX10_identity_40 : decode cX10_identity 40 = .ok (.aload_n 0, 1) := by decide +kernel
theorem dX10_identity_41 : decode cX10_identity 41 = .ok (.getfield 84, 3) := by decide +kernel
theorem dX10_identity_44 : decode cX10_identity 44 = .ok (.invokevirtual 199, 3) := by decide +kernel
theorem dX10_identity_47 : decode cX10_identity 47 = .ok (.aload_n 0, 1) := by decide +kernel
theorem dX10_identity_48 : decode cX10_identity 48 = .ok (.getfield 84, 3) := by decide +kernel
theorem dX10_identity_51 : decode cX10_identity 51 = .ok (.iload_n 1, 1) := by decide +kernel
theorem dX10_identity_52 : decode cX10_identity 52 = .ok (.iaload, 1) := by decide +kernel
theorem dX10_identity_53 : decode cX10_identity 53 = .ok (.ireturn, 1) := by decide +kernel
theorem dX10_order_0 : decode cX10_order 0 = .ok (.aload_n 0, 1) := by decide +kernel
theorem dX10_order_1 : decode cX10_order 1 = .ok (.getfield 12, 3) := by decide +kernel
theorem dX10_order_4 : decode cX10_order 4 = .ok (.invokevirtual 147, 3) := by decide +kernel
theorem dX10_order_7 : decode cX10_order 7 = .ok (.ifCond .ne 7, 3) := by decide +kernel
theorem dX10_order_10 : decode cX10_order 10 = .ok (.sipush (-10003), 3) := by decide +kernel
theorem dX10_order_13 : decode cX10_order 13 = .ok (.ireturn, 1) := by decide +kernel
theorem dX10_order_14 : decode cX10_order 14 = .ok (.aload_n 0, 1) := by decide +kernel
theorem dX10_order_15 : decode cX10_order 15 = .ok (.getfield 60, 3) := by decide +kernel
theorem dX10_order_18 : decode cX10_order 18 = .ok (.aload_n 0, 1) := by decide +kernel
theorem dX10_order_19 : decode cX10_order 19 = .ok (.getfield 80, 3) := by decide +kernel
theorem dX10_order_22 : decode cX10_order 22 = .ok (.invokevirtual 247, 3) := by decide +kernel
theorem dX10_order_25 : decode cX10_order 25 = .ok (.l2i, 1) := by decide +kernel
theorem dX10_order_26 : decode cX10_order 26 = .ok (.ireturn, 1) := by decide +kernel
theorem dX10_factor_0 : decode cX10_factor 0 = .ok (.iload_n 1, 1) := by decide +kernel
theorem dX10_factor_1 : decode cX10_factor 1 = .ok (.iconst (-1), 1) := by decide +kernel
theorem dX10_factor_2 : decode cX10_factor 2 = .ok (.if_icmp .lt 13, 3) := by decide +kernel
theorem dX10_factor_5 : decode cX10_factor 5 = .ok (.aload_n 0, 1) := by decide +kernel
theorem dX10_factor_6 : decode cX10_factor 6 = .ok (.getfield 12, 3) := by decide +kernel
theorem dX10_factor_9 : decode cX10_factor 9 = .ok (.invokevirtual 147, 3) := by decide +kernel
theorem dX10_factor_12 : decode cX10_factor 12 = .ok (.ifCond .ne 7, 3) := by decide +kernel
theorem dX10_factor_15 : decode cX10_factor 15 = .ok (.ldc2_w 251, 3) := by decide +kernel
theorem dX10_factor_18 : decode cX10_factor 18 = .ok (.lreturn, 1) := by decide +kernel
theorem dX10_factor_19 : decode cX10_factor 19 = .ok (.aload_n 0, 1) := by decide +kernel
theorem dX10_factor_20 : decode cX10_factor 20 = .ok (.getfield 60, 3) := by decide +kernel
theorem dX10_factor_23 : decode cX10_factor 23 = .ok (.invokevirtual 253, 3) := by decide +kernel
theorem dX10_factor_26 : decode cX10_factor 26 = .ok (.iload_n 1, 1) := by decide +kernel
theorem dX10_factor_27 : decode cX10_factor 27 = .ok (.iconst (-1), 1) := by decide +kernel
theorem dX10_factor_28 : decode cX10_factor 28 = .ok (.if_icmp .ne 12, 3) := by decide +kernel
theorem dX10_factor_31 : decode cX10_factor 31 = .ok (.aload_n 0, 1) := by decide +kernel
theorem dX10_factor_32 : decode cX10_factor 32 = .ok (.getfield 60, 3) := by decide +kernel
theorem dX10_factor_35 : decode cX10_factor 35 = .ok (.getfield 256, 3) := by decide +kernel
theorem dX10_factor_38 : decode cX10_factor 38 = .ok (.i2l, 1) := by decide +kernel
theorem dX10_factor_39 : decode cX10_factor 39 = .ok (.lreturn, 1) := by decide +kernel
theorem dX10_factor_40 : decode cX10_factor 40 = .ok (.iload_n 1, 1) := by decide +kernel
theorem dX10_factor_41 : decode cX10_factor 41 = .ok (.aload_n 0, 1) := by decide +kernel
theorem dX10_factor_42 : decode cX10_factor 42 = .ok (.getfield 60, 3) := by decide +kernel
theorem dX10_factor_45 : decode cX10_factor 45 = .ok (.getfield 256, 3) := by decide +kernel
theorem dX10_factor_48 : decode cX10_factor 48 = .ok (.if_icmp .ge 15, 3) := by decide +kernel
theorem dX10_factor_51 : decode cX10_factor 51 = .ok (.aload_n 0, 1) := by decide +kernel
theorem dX10_factor_52 : decode cX10_factor 52 = .ok (.getfield 60, 3) := by decide +kernel
theorem dX10_factor_55 : decode cX10_factor 55 = .ok (.getfield 259, 3) := by decide +kernel
theorem dX10_factor_58 : decode cX10_factor 58 = .ok (.iload_n 1, 1) := by decide +kernel
theorem dX10_factor_59 : decode cX10_factor 59 = .ok (.laload, 1) := by decide +kernel
theorem dX10_factor_60 : decode cX10_factor 60 = .ok (.goto 6, 3) := by decide +kernel
theorem dX10_factor_63 : decode cX10_factor 63 = .ok (.ldc2_w 251, 3) := by decide +kernel
theorem dX10_factor_66 : decode cX10_factor 66 = .ok (.lreturn, 1) := by decide +kernel
theorem dX10_level_0 : decode cX10_level 0 = .ok (.aload_n 0, 1) := by decide +kernel
theorem dX10_level_1 : decode cX10_level 1 = .ok (.invokevirtual 210, 3) := by decide +kernel
theorem dX10_level_4 : decode cX10_level 4 = .ok (.ifCond .ne 7, 3) := by decide +kernel
theorem dX10_level_7 : decode cX10_level 7 = .ok (.sipush (-10004), 3) := by decide +kernel
theorem dX10_level_10 : decode cX10_level 10 = .ok (.ireturn, 1) := by decide +kernel
theorem dX10_level_11 : decode cX10_level 11 = .ok (.aload_n 0, 1) := by decide +kernel
theorem dX10_level_12 : decode cX10_level 12 = .ok (.getfield 80, 3) := by decide +kernel
theorem dX10_level_15 : decode cX10_level 15 = .ok (.invokestatic 151, 3) := by decide +kernel
theorem dX10_level_18 : decode cX10_level 18 = .ok (.aload_n 0, 1) := by decide +kernel
theorem dX10_level_19 : decode cX10_level 19 = .ok (.getfield 12, 3) := by decide +kernel
theorem dX10_level_22 : decode cX10_level 22 = .ok (.invokevirtual 158, 3) := by decide +kernel
theorem dX10_level_25 : decode cX10_level 25 = .ok (.isub, 1) := by decide +kernel
theorem dX10_level_26 : decode cX10_level 26 = .ok (.ireturn, 1) := by decide +kernel
theorem dX10_levelCount_0 : decode cX10_levelCount 0 = .ok (.iload_n 1, 1) := by decide +kernel
theorem dX10_levelCount_1 : decode cX10_levelCount 1 = .ok (.ifCond .ge 7, 3) := by decide +kernel
theorem dX10_levelCount_4 : decode cX10_levelCount 4 = .ok (.sipush (-10002), 3) := by decide +kernel
theorem dX10_levelCount_7 : decode cX10_levelCount 7 = .ok (.ireturn, 1) := by decide +kernel
theorem dX10_levelCount_8 : decode cX10_levelCount 8 = .ok (.aload_n 0, 1) := by decide +kernel
theorem dX10_levelCount_9 : decode cX10_levelCount 9 = .ok (.getfield 12, 3) := by decide +kernel
theorem dX10_levelCount_12 : decode cX10_levelCount 12 = .ok (.invokevirtual 147, 3) := by decide +kernel
theorem dX10_levelCount_15 : decode cX10_levelCount 15 = .ok (.ifCond .ne 7, 3) := by decide +kernel
theorem dX10_levelCount_18 : decode cX10_levelCount 18 = .ok (.sipush (-10003), 3) := by decide +kernel
theorem dX10_levelCount_21 : decode cX10_levelCount 21 = .ok (.ireturn, 1) := by decide +kernel
theorem dX10_levelCount_22 : decode cX10_levelCount 22 = .ok (.aload_n 0, 1) := by decide +kernel
theorem dX10_levelCount_23 : decode cX10_levelCount 23 = .ok (.getfield 76, 3) := by decide +kernel
theorem dX10_levelCount_26 : decode cX10_levelCount 26 = .ok (.iload_n 1, 1) := by decide +kernel
theorem dX10_levelCount_27 : decode cX10_levelCount 27 = .ok (.invokevirtual 263, 3) := by decide +kernel
theorem dX10_levelCount_30 : decode cX10_levelCount 30 = .ok (.l2i, 1) := by decide +kernel
theorem dX10_levelCount_31 : decode cX10_levelCount 31 = .ok (.ireturn, 1) := by decide +kernel
theorem dX10_tree_0 : decode cX10_tree 0 = .ok (.aload_n 0, 1) := by decide +kernel
theorem dX10_tree_1 : decode cX10_tree 1 = .ok (.invokevirtual 210, 3) := by decide +kernel
theorem dX10_tree_4 : decode cX10_tree 4 = .ok (.ifCond .ne 7, 3) := by decide +kernel
theorem dX10_tree_7 : decode cX10_tree 7 = .ok (.sipush (-10004), 3) := by decide +kernel
theorem dX10_tree_10 : decode cX10_tree 10 = .ok (.ireturn, 1) := by decide +kernel
theorem dX10_tree_11 : decode cX10_tree 11 = .ok (.aload_n 0, 1) := by decide +kernel
theorem dX10_tree_12 : decode cX10_tree 12 = .ok (.getfield 69, 3) := by decide +kernel
theorem dX10_tree_15 : decode cX10_tree 15 = .ok (.aload_n 0, 1) := by decide +kernel
theorem dX10_tree_16 : decode cX10_tree 16 = .ok (.getfield 80, 3) := by decide +kernel
theorem dX10_tree_19 : decode cX10_tree 19 = .ok (.invokevirtual 267, 3) := by decide +kernel
theorem dX10_tree_22 : decode cX10_tree 22 = .ok (.ireturn, 1) := by decide +kernel
theorem dX10_takeTree_0 : decode cX10_takeTree 0 = .ok (.aload_n 0, 1) := by decide +kernel
theorem dX10_takeTree_1 : decode cX10_takeTree 1 = .ok (.getfield 12, 3) := by decide +kernel
theorem dX10_takeTree_4 : decode cX10_takeTree 4 = .ok (.iload_n 1, 1) := by decide +kernel
theorem dX10_takeTree_5 : decode cX10_takeTree 5 = .ok (.invokevirtual 270, 3) := by decide +kernel
theorem dX10_takeTree_8 : decode cX10_takeTree 8 = .ok (.ifCond .ne 7, 3) := by decide +kernel
theorem dX10_takeTree_11 : decode cX10_takeTree 11 = .ok (.sipush (-10002), 3) := by decide +kernel
theorem dX10_takeTree_14 : decode cX10_takeTree 14 = .ok (.ireturn, 1) := by decide +kernel
theorem dX10_takeTree_15 : decode cX10_takeTree 15 = .ok (.aload_n 0, 1) := by decide +kernel
theorem dX10_takeTree_16 : decode cX10_takeTree 16 = .ok (.getfield 28, 3) := by decide +kernel
theorem dX10_takeTree_19 : decode cX10_takeTree 19 = .ok (.aload_n 0, 1) := by decide +kernel
theorem dX10_takeTree_20 : decode cX10_takeTree 20 = .ok (.getfield 80, 3) := by decide +kernel
theorem dX10_takeTree_23 : decode cX10_takeTree 23 = .ok (.invokevirtual 174, 3) := by decide +kernel
theorem dX10_takeTree_26 : decode cX10_takeTree 26 = .ok (.aload_n 0, 1) := by decide +kernel
theorem dX10_takeTree_27 : decode cX10_takeTree 27 = .ok (.getfield 69, 3) := by decide +kernel
theorem dX10_takeTree_30 : decode cX10_takeTree 30 = .ok (.iload_n 1, 1) := by decide +kernel
theorem dX10_takeTree_31 : decode cX10_takeTree 31 = .ok (.aload_n 0, 1) := by decide +kernel
theorem dX10_takeTree_32 : decode cX10_takeTree 32 = .ok (.getfield 80, 3) := by decide +kernel
theorem dX10_takeTree_35 : decode cX10_takeTree 35 = .ok (.invokevirtual 273, 3) := by decide +kernel
theorem dX10_takeTree_38 : decode cX10_takeTree 38 = .ok (.aload_n 0, 1) := by decide +kernel
theorem dX10_takeTree_39 : decode cX10_takeTree 39 = .ok (.getfield 80, 3) := by decide +kernel
theorem dX10_takeTree_42 : decode cX10_takeTree 42 = .ok (.invokestatic 151, 3) := by decide +kernel
theorem dX10_takeTree_45 : decode cX10_takeTree 45 = .ok (.ireturn, 1) := by decide +kernel
theorem dX10_treeAt_0 : decode cX10_treeAt 0 = .ok (.iload_n 1, 1) := by decide +kernel
theorem dX10_treeAt_1 : decode cX10_treeAt 1 = .ok (.ifCond .ge 7, 3) := by decide +kernel
theorem dX10_treeAt_4 : decode cX10_treeAt 4 = .ok (.sipush (-10002), 3) := by decide +kernel
theorem dX10_treeAt_7 : decode cX10_treeAt 7 = .ok (.ireturn, 1) := by decide +kernel
theorem dX10_treeAt_8 : decode cX10_treeAt 8 = .ok (.iload_n 1, 1) := by decide +kernel
theorem dX10_treeAt_9 : decode cX10_treeAt 9 = .ok (.i2l, 1) := by decide +kernel
theorem dX10_treeAt_10 : decode cX10_treeAt 10 = .ok (.aload_n 0, 1) := by decide +kernel
theorem dX10_treeAt_11 : decode cX10_treeAt 11 = .ok (.getfield 69, 3) := by decide +kernel
theorem dX10_treeAt_14 : decode cX10_treeAt 14 = .ok (.iconst 0, 1) := by decide +kernel
theorem dX10_treeAt_15 : decode cX10_treeAt 15 = .ok (.iconst 0, 1) := by decide +kernel
theorem dX10_treeAt_16 : decode cX10_treeAt 16 = .ok (.invokevirtual 241, 3) := by decide +kernel
theorem dX10_treeAt_19 : decode cX10_treeAt 19 = .ok (.lcmp, 1) := by decide +kernel
theorem dX10_treeAt_20 : decode cX10_treeAt 20 = .ok (.ifCond .lt 7, 3) := by decide +kernel
theorem dX10_treeAt_23 : decode cX10_treeAt 23 = .ok (.sipush (-10007), 3) := by decide +kernel
theorem dX10_treeAt_26 : decode cX10_treeAt 26 = .ok (.ireturn, 1) := by decide +kernel
theorem dX10_treeAt_27 : decode cX10_treeAt 27 = .ok (.aload_n 0, 1) := by decide +kernel
theorem dX10_treeAt_28 : decode cX10_treeAt 28 = .ok (.getfield 69, 3) := by decide +kernel
theorem dX10_treeAt_31 : decode cX10_treeAt 31 = .ok (.iload_n 1, 1) := by decide +kernel
theorem dX10_treeAt_32 : decode cX10_treeAt 32 = .ok (.invokevirtual 276, 3) := by decide +kernel
theorem dX10_treeAt_35 : decode cX10_treeAt 35 = .ok (.ireturn, 1) := by decide +kernel
theorem dX10_startAnew_0 : decode cX10_startAnew 0 = .ok (.aload_n 0, 1) := by decide +kernel
theorem dX10_startAnew_1 : decode cX10_startAnew 1 = .ok (.getfield 12, 3) := by decide +kernel
theorem dX10_startAnew_4 : decode cX10_startAnew 4 = .ok (.iload_n 1, 1) := by decide +kernel
theorem dX10_startAnew_5 : decode cX10_startAnew 5 = .ok (.invokevirtual 90, 3) := by decide +kernel
theorem dX10_startAnew_8 : decode cX10_startAnew 8 = .ok (.aload_n 0, 1) := by decide +kernel
theorem dX10_startAnew_9 : decode cX10_startAnew 9 = .ok (.getfield 80, 3) := by decide +kernel
theorem dX10_startAnew_12 : decode cX10_startAnew 12 = .ok (.invokestatic 244, 3) := by decide +kernel
theorem dX10_startAnew_15 : decode cX10_startAnew 15 = .ok (.aload_n 0, 1) := by decide +kernel
theorem dX10_startAnew_16 : decode cX10_startAnew 16 = .ok (.invokevirtual 112, 3) := by decide +kernel
theorem dX10_startAnew_19 : decode cX10_startAnew 19 = .ok (.return_, 1) := by decide +kernel
theorem dX10_forgetStates_0 : decode cX10_forgetStates 0 = .ok (.aload_n 0, 1) := by decide +kernel
theorem dX10_forgetStates_1 : decode cX10_forgetStates 1 = .ok (.getfield 28, 3) := by decide +kernel
theorem dX10_forgetStates_4 : decode cX10_forgetStates 4 = .ok (.invokevirtual 279, 3) := by decide +kernel
theorem dX10_forgetStates_7 : decode cX10_forgetStates 7 = .ok (.aload_n 0, 1) := by decide +kernel
theorem dX10_forgetStates_8 : decode cX10_forgetStates 8 = .ok (.getfield 35, 3) := by decide +kernel
theorem dX10_forgetStates_11 : decode cX10_forgetStates 11 = .ok (.invokevirtual 282, 3) := by decide +kernel
theorem dX10_forgetStates_14 : decode cX10_forgetStates 14 = .ok (.return_, 1) := by decide +kernel
theorem dX10_isRecurrent_0 : decode cX10_isRecurrent 0 = .ok (.aload_n 0, 1) := by decide +kernel
theorem dX10_isRecurrent_1 : decode cX10_isRecurrent 1 = .ok (.getfield 53, 3) := by decide +kernel
theorem dX10_isRecurrent_4 : decode cX10_isRecurrent 4 = .ok (.aload_n 0, 1) := by decide +kernel
theorem dX10_isRecurrent_5 : decode cX10_isRecurrent 5 = .ok (.getfield 80, 3) := by decide +kernel
theorem dX10_isRecurrent_8 : decode cX10_isRecurrent 8 = .ok (.invokevirtual 206, 3) := by decide +kernel
theorem dX10_isRecurrent_11 : decode cX10_isRecurrent 11 = .ok (.ifCond .eq 31, 3) := by decide +kernel
theorem dX10_isRecurrent_14 : decode cX10_isRecurrent 14 = .ok (.aload_n 0, 1) := by decide +kernel
theorem dX10_isRecurrent_15 : decode cX10_isRecurrent 15 = .ok (.getfield 12, 3) := by decide +kernel
theorem dX10_isRecurrent_18 : decode cX10_isRecurrent 18 = .ok (.invokevirtual 147, 3) := by decide +kernel
theorem dX10_isRecurrent_21 : decode cX10_isRecurrent 21 = .ok (.ifCond .eq 21, 3) := by decide +kernel
theorem dX10_isRecurrent_24 : decode cX10_isRecurrent 24 = .ok (.aload_n 0, 1) := by decide +kernel
theorem dX10_isRecurrent_25 : decode cX10_isRecurrent 25 = .ok (.getfield 44, 3) := by decide +kernel
theorem dX10_isRecurrent_28 : decode cX10_isRecurrent 28 = .ok (.aload_n 0, 1) := by decide +kernel
theorem dX10_isRecurrent_29 : decode cX10_isRecurrent 29 = .ok (.getfield 80, 3) := by decide +kernel
theorem dX10_isRecurrent_32 : decode cX10_isRecurrent 32 = .ok (.invokevirtual 216, 3) := by decide +kernel
theorem dX10_isRecurrent_35 : decode cX10_isRecurrent 35 = .ok (.ifCond .eq 7, 3) := by decide +kernel
theorem dX10_isRecurrent_38 : decode cX10_isRecurrent 38 = .ok (.iconst 1, 1) := by decide +kernel
theorem dX10_isRecurrent_39 : decode cX10_isRecurrent 39 = .ok (.goto 4, 3) := by decide +kernel
theorem dX10_isRecurrent_42 : decode cX10_isRecurrent 42 = .ok (.iconst 0, 1) := by decide +kernel
theorem dX10_isRecurrent_43 : decode cX10_isRecurrent 43 = .ok (.ireturn, 1) := by decide +kernel
theorem dX10_sumOf_0 : decode cX10_sumOf 0 = .ok (.iconst 0, 1) := by decide +kernel
theorem dX10_sumOf_1 : decode cX10_sumOf 1 = .ok (.istore_n 1, 1) := by decide +kernel
theorem dX10_sumOf_2 : decode cX10_sumOf 2 = .ok (.iconst 0, 1) := by decide +kernel
theorem dX10_sumOf_3 : decode cX10_sumOf 3 = .ok (.istore_n 2, 1) := by decide +kernel
theorem dX10_sumOf_4 : decode cX10_sumOf 4 = .ok (.iload_n 2, 1) := by decide +kernel
theorem dX10_sumOf_5 : decode cX10_sumOf 5 = .ok (.aload_n 0, 1) := by decide +kernel
theorem dX10_sumOf_6 : decode cX10_sumOf 6 = .ok (.arraylength, 1) := by decide +kernel
theorem dX10_sumOf_7 : decode cX10_sumOf 7 = .ok (.if_icmp .ge 15, 3) := by decide +kernel
theorem dX10_sumOf_10 : decode cX10_sumOf 10 = .ok (.iload_n 1, 1) := by decide +kernel
theorem dX10_sumOf_11 : decode cX10_sumOf 11 = .ok (.aload_n 0, 1) := by decide +kernel
theorem dX10_sumOf_12 : decode cX10_sumOf 12 = .ok (.iload_n 2, 1) := by decide +kernel
theorem dX10_sumOf_13 : decode cX10_sumOf 13 = .ok (.iaload, 1) := by decide +kernel
theorem dX10_sumOf_14 : decode cX10_sumOf 14 = .ok (.iadd, 1) := by decide +kernel
theorem dX10_sumOf_15 : decode cX10_sumOf 15 = .ok (.istore_n 1, 1) := by decide +kernel
theorem dX10_sumOf_16 : decode cX10_sumOf 16 = .ok (.iinc 2 1, 3) := by decide +kernel
theorem dX10_sumOf_19 : decode cX10_sumOf 19 = .ok (.goto (-15), 3) := by decide +kernel
theorem dX10_sumOf_22 : decode cX10_sumOf 22 = .ok (.iload_n 1, 1) := by decide +kernel
theorem dX10_sumOf_23 : decode cX10_sumOf 23 = .ok (.ireturn, 1) := by decide +kernel
theorem dX10_clearChips_0 : decode cX10_clearChips 0 = .ok (.iconst 0, 1) := by decide +kernel
theorem dX10_clearChips_1 : decode cX10_clearChips 1 = .ok (.istore_n 1, 1) := by decide +kernel
theorem dX10_clearChips_2 : decode cX10_clearChips 2 = .ok (.iload_n 1, 1) := by decide +kernel
theorem dX10_clearChips_3 : decode cX10_clearChips 3 = .ok (.aload_n 0, 1) := by decide +kernel
theorem dX10_clearChips_4 : decode cX10_clearChips 4 = .ok (.arraylength, 1) := by decide +kernel
theorem dX10_clearChips_5 : decode cX10_clearChips 5 = .ok (.if_icmp .ge 13, 3) := by decide +kernel
theorem dX10_clearChips_8 : decode cX10_clearChips 8 = .ok (.aload_n 0, 1) := by decide +kernel
theorem dX10_clearChips_9 : decode cX10_clearChips 9 = .ok (.iload_n 1, 1) := by decide +kernel
theorem dX10_clearChips_10 : decode cX10_clearChips 10 = .ok (.iconst 0, 1) := by decide +kernel
theorem dX10_clearChips_11 : decode cX10_clearChips 11 = .ok (.iastore, 1) := by decide +kernel
theorem dX10_clearChips_12 : decode cX10_clearChips 12 = .ok (.iinc 1 1, 3) := by decide +kernel
theorem dX10_clearChips_15 : decode cX10_clearChips 15 = .ok (.goto (-13), 3) := by decide +kernel
theorem dX10_clearChips_18 : decode cX10_clearChips 18 = .ok (.return_, 1) := by decide +kernel
theorem dX10_copyChips_0 : decode cX10_copyChips 0 = .ok (.iconst 0, 1) := by decide +kernel
theorem dX10_copyChips_1 : decode cX10_copyChips 1 = .ok (.istore_n 2, 1) := by decide +kernel
theorem dX10_copyChips_2 : decode cX10_copyChips 2 = .ok (.iload_n 2, 1) := by decide +kernel
theorem dX10_copyChips_3 : decode cX10_copyChips 3 = .ok (.aload_n 0, 1) := by decide +kernel
theorem dX10_copyChips_4 : decode cX10_copyChips 4 = .ok (.arraylength, 1) := by decide +kernel
theorem dX10_copyChips_5 : decode cX10_copyChips 5 = .ok (.if_icmp .ge 21, 3) := by decide +kernel
theorem dX10_copyChips_8 : decode cX10_copyChips 8 = .ok (.iload_n 2, 1) := by decide +kernel
theorem dX10_copyChips_9 : decode cX10_copyChips 9 = .ok (.aload_n 1, 1) := by decide +kernel
theorem dX10_copyChips_10 : decode cX10_copyChips 10 = .ok (.arraylength, 1) := by decide +kernel
theorem dX10_copyChips_11 : decode cX10_copyChips 11 = .ok (.if_icmp .ge 15, 3) := by decide +kernel
theorem dX10_copyChips_14 : decode cX10_copyChips 14 = .ok (.aload_n 1, 1) := by decide +kernel
theorem dX10_copyChips_15 : decode cX10_copyChips 15 = .ok (.iload_n 2, 1) := by decide +kernel
theorem dX10_copyChips_16 : decode cX10_copyChips 16 = .ok (.aload_n 0, 1) := by decide +kernel
theorem dX10_copyChips_17 : decode cX10_copyChips 17 = .ok (.iload_n 2, 1) := by decide +kernel
theorem dX10_copyChips_18 : decode cX10_copyChips 18 = .ok (.iaload, 1) := by decide +kernel
theorem dX10_copyChips_19 : decode cX10_copyChips 19 = .ok (.iastore, 1) := by decide +kernel
theorem dX10_copyChips_20 : decode cX10_copyChips 20 = .ok (.iinc 2 1, 3) := by decide +kernel
theorem dX10_copyChips_23 : decode cX10_copyChips 23 = .ok (.goto (-21), 3) := by decide +kernel
theorem dX10_copyChips_26 : decode cX10_copyChips 26 = .ok (.return_, 1) := by decide +kernel
theorem dX10_isEqual_0 : decode cX10_isEqual 0 = .ok (.iconst 0, 1) := by decide +kernel
theorem dX10_isEqual_1 : decode cX10_isEqual 1 = .ok (.istore_n 2, 1) := by decide +kernel
theorem dX10_isEqual_2 : decode cX10_isEqual 2 = .ok (.iload_n 2, 1) := by decide +kernel
theorem dX10_isEqual_3 : decode cX10_isEqual 3 = .ok (.aload_n 0, 1) := by decide +kernel
theorem dX10_isEqual_4 : decode cX10_isEqual 4 = .ok (.arraylength, 1) := by decide +kernel
theorem dX10_isEqual_5 : decode cX10_isEqual 5 = .ok (.if_icmp .ge 26, 3) := by decide +kernel
theorem dX10_isEqual_8 : decode cX10_isEqual 8 = .ok (.iload_n 2, 1) := by decide +kernel
theorem dX10_isEqual_9 : decode cX10_isEqual 9 = .ok (.aload_n 1, 1) := by decide +kernel
theorem dX10_isEqual_10 : decode cX10_isEqual 10 = .ok (.arraylength, 1) := by decide +kernel
theorem dX10_isEqual_11 : decode cX10_isEqual 11 = .ok (.if_icmp .ge 20, 3) := by decide +kernel
theorem dX10_isEqual_14 : decode cX10_isEqual 14 = .ok (.aload_n 0, 1) := by decide +kernel
theorem dX10_isEqual_15 : decode cX10_isEqual 15 = .ok (.iload_n 2, 1) := by decide +kernel
theorem dX10_isEqual_16 : decode cX10_isEqual 16 = .ok (.iaload, 1) := by decide +kernel
theorem dX10_isEqual_17 : decode cX10_isEqual 17 = .ok (.aload_n 1, 1) := by decide +kernel
theorem dX10_isEqual_18 : decode cX10_isEqual 18 = .ok (.iload_n 2, 1) := by decide +kernel
theorem dX10_isEqual_19 : decode cX10_isEqual 19 = .ok (.iaload, 1) := by decide +kernel
theorem dX10_isEqual_20 : decode cX10_isEqual 20 = .ok (.if_icmp .eq 5, 3) := by decide +kernel
theorem dX10_isEqual_23 : decode cX10_isEqual 23 = .ok (.iconst 0, 1) := by decide +kernel
theorem dX10_isEqual_24 : decode cX10_isEqual 24 = .ok (.ireturn, 1) := by decide +kernel
theorem dX10_isEqual_25 : decode cX10_isEqual 25 = .ok (.iinc 2 1, 3) := by decide +kernel
theorem dX10_isEqual_28 : decode cX10_isEqual 28 = .ok (.goto (-26), 3) := by decide +kernel
theorem dX10_isEqual_31 : decode cX10_isEqual 31 = .ok (.iconst 1, 1) := by decide +kernel
theorem dX10_isEqual_32 : decode cX10_isEqual 32 = .ok (.ireturn, 1) := by decide +kernel
abbrev H_Cg_clearChips_2 (n : Nat) (Q : Sto → Prop) (k0 : Nat) (x1 : Int) (s : Sto) : Prop := Go (SL n) M_Cg_clearChips (fV0 Q) 0 0 2 [(0, .ref k0), (1, iV x1)] [] s
set_option maxRecDepth 20000 in
theorem b_Cg_clearChips_2 {n : Nat} {Q : Sto → Prop} {k0 : Nat} {x1 : Int} (hk0 : ar (SL n) k0 1 8) {s : Sto} (hT : (-2147483648 ≤ x1 ∧ x1 < 2147483648) ∧ ((8 ≤ x1) → Q s) ∧ ((x1 < 8) → (0 ≤ x1 ∧ x1 < 8) ∧ ∀ s4, s4 = up s k0 (Int.toNat x1) 0 → H_Cg_clearChips_2 n Q k0 (x1 + 1) s4)) : H_Cg_clearChips_2 n Q k0 x1 s := by
  refine g_iload_n (npc := 3) dX10_clearChips_2 rfl rfl rfl ?_
  refine g_aload_n (npc := 4) dX10_clearChips_3 rfl rfl rfl ?_
  refine g_alen (npc := 5) dX10_clearChips_4 rfl hk0 (by decide) ?_
  obtain ⟨h1, hTt, hTf⟩ := hT
  refine g_icmp_ge (npc := 8) (tgt := 18) dX10_clearChips_5 rfl (by decide) ⟨h1, by decide, by decide⟩ (fun c2 => ?_) (fun c2 => ?_)
  · replace hT := hTt c2
    exact g_ret dX10_clearChips_18 rfl (by decide) ⟨rfl, hT⟩
  · replace hT := hTf (Int.not_le.mp c2)
    refine g_aload_n (npc := 9) dX10_clearChips_8 rfl rfl rfl ?_
    refine g_iload_n (npc := 10) dX10_clearChips_9 rfl rfl rfl ?_
    refine g_iconst (npc := 11) dX10_clearChips_10 rfl ?_
    obtain ⟨h3, hT⟩ := hT
    replace hT := hT _ rfl
    refine g_iast (npc := 12) dX10_clearChips_11 rfl hk0 h3  ?_
    refine g_iinc (npc := 15) (y := (x1 + 1)) (l' := [(0, .ref k0), (1, iV (x1 + 1))]) dX10_clearChips_12 rfl (by decide) rfl (by omega) rfl ?_
    refine g_goto (npc := 2) dX10_clearChips_15 (by decide) ?_
    exact hT
set_option maxRecDepth 20000 in
theorem e_Cg_clearChips {n : Nat} {k0 : Nat} (hk0 : ar (SL n) k0 1 8) {s : Sto} {Q : Sto → Prop} (hT : H_Cg_clearChips_2 n Q k0 0 s) : K_Cg_clearChips n k0 s Q := by
  refine Sp.body (by decide +kernel) (Nat.le_of_ble_eq_true rfl) ?_
  show Go (SL n) M_Cg_clearChips (fV0 Q) 0 0 0 [(0, .ref k0)] [] s
  refine g_iconst (npc := 1) dX10_clearChips_0 rfl ?_
  refine g_istore_n (npc := 2) (l' := [(0, .ref k0), (1, iV 0)]) dX10_clearChips_1 rfl rfl (by decide) rfl ?_
  exact hT
set_option maxRecDepth 20000 in
theorem e_Cg_forgetStates {n : Nat} {s : Sto} {Q : Sto → Prop} (hT : ∃ Q1 : Sto → Prop, K_Hi_forgetAll n s Q1 ∧ ∀ s3, Q1 s3 → ∃ Q6 : Sto → Prop, K_Sl_forgetAll n s3 Q6 ∧ ∀ s8, Q6 s8 → Q s8) : K_Cg_forgetStates n s Q := by
  refine Sp.body (by decide +kernel) (Nat.le_of_ble_eq_true rfl) ?_
  show Go (SL n) M_Cg_forgetStates (fV0 Q) 0 0 0 [(0, .ref 0)] [] s
  refine g_aload_n (npc := 1) dX10_forgetStates_0 rfl rfl rfl ?_
  refine gf_Cg_28 (npc := 4) dX10_forgetStates_1 rfl rfl ?_
  obtain ⟨Q1, h2, hT⟩ := hT
  refine iv_Cg_279 (npc := 7) dX10_forgetStates_4 rfl rfl (Nat.le_of_ble_eq_true rfl) (by decide) (by decide) h2 (fun s3 e5 => ?_)
  replace hT := hT s3 e5
  refine g_aload_n (npc := 8) dX10_forgetStates_7 rfl rfl rfl ?_
  refine gf_Cg_35 (npc := 11) dX10_forgetStates_8 rfl rfl ?_
  obtain ⟨Q6, h7, hT⟩ := hT
  refine iv_Cg_282 (npc := 14) dX10_forgetStates_11 rfl rfl (Nat.le_of_ble_eq_true rfl) (by decide) (by decide) h7 (fun s8 e10 => ?_)
  replace hT := hT s8 e10
  exact g_ret dX10_forgetStates_14 rfl (by decide) ⟨rfl, hT⟩
set_option maxRecDepth 20000 in
theorem e_Cg_startAnew {n : Nat} {x1 : Int} {s : Sto} {Q : Sto → Prop} (hT : ∃ Q1 : Sto → Prop, K_Gr_clear n x1 s Q1 ∧ ∀ s3, Q1 s3 → ∃ Q6 : Sto → Prop, K_Cg_clearChips n 187 s3 Q6 ∧ ∀ s8, Q6 s8 → ∃ Q11 : Sto → Prop, K_Cg_forgetStates n s8 Q11 ∧ ∀ s13, Q11 s13 → Q s13) : K_Cg_startAnew n x1 s Q := by
  refine Sp.body (by decide +kernel) (Nat.le_of_ble_eq_true rfl) ?_
  show Go (SL n) M_Cg_startAnew (fV0 Q) 0 0 0 [(0, .ref 0), (1, iV x1)] [] s
  refine g_aload_n (npc := 1) dX10_startAnew_0 rfl rfl rfl ?_
  refine gf_Cg_12 (npc := 4) dX10_startAnew_1 rfl rfl ?_
  refine g_iload_n (npc := 5) dX10_startAnew_4 rfl rfl rfl ?_
  obtain ⟨Q1, h2, hT⟩ := hT
  refine iv_Cg_90 (npc := 8) dX10_startAnew_5 rfl rfl (Nat.le_of_ble_eq_true rfl) (by decide) (by decide) h2 (fun s3 e5 => ?_)
  replace hT := hT s3 e5
  refine g_aload_n (npc := 9) dX10_startAnew_8 rfl rfl rfl ?_
  refine gf_Cg_80 (npc := 12) dX10_startAnew_9 rfl rfl ?_
  obtain ⟨Q6, h7, hT⟩ := hT
  refine iv_Cg_244 (npc := 15) dX10_startAnew_12 rfl rfl (Nat.le_of_ble_eq_true rfl) (by decide) (by decide) h7 (fun s8 e10 => ?_)
  replace hT := hT s8 e10
  refine g_aload_n (npc := 16) dX10_startAnew_15 rfl rfl rfl ?_
  obtain ⟨Q11, h12, hT⟩ := hT
  refine iv_Cg_112 (npc := 19) dX10_startAnew_16 rfl rfl (Nat.le_of_ble_eq_true rfl) (by decide) (by decide) h12 (fun s13 e15 => ?_)
  replace hT := hT s13 e15
  exact g_ret dX10_startAnew_19 rfl (by decide) ⟨rfl, hT⟩
set_option maxRecDepth 20000 in
theorem e_Cg_reset {n : Nat} {x1 : Int} {s : Sto} {Q : Int → Sto → Prop} (hT : (-2147483648 ≤ x1 ∧ x1 < 2147483648) ∧ ((x1 < 2) → Q (-10002) s) ∧ ((2 ≤ x1) → (-2147483648 ≤ x1 ∧ x1 < 2147483648) ∧ ((x1 ≤ 8) → ∃ Q5 : Sto → Prop, K_Cg_startAnew n x1 s Q5 ∧ ∀ s7, Q5 s7 → Q (s 1 0) s7) ∧ ((8 < x1) → Q (-10002) s))) : K_Cg_reset n x1 s Q := by
  refine Sp.body (by decide +kernel) (Nat.le_of_ble_eq_true rfl) ?_
  show Go (SL n) M_Cg_reset (fI Q) 0 0 0 [(0, .ref 0), (1, iV x1)] [] s
  refine g_iload_n (npc := 1) dX10_reset_0 rfl rfl rfl ?_
  refine g_iconst (npc := 2) dX10_reset_1 rfl ?_
  obtain ⟨h1, hTt, hTf⟩ := hT
  refine g_icmp_lt (npc := 5) (tgt := 11) dX10_reset_2 rfl (by decide) ⟨h1, by decide, by decide⟩ (fun c2 => ?_) (fun c2 => ?_)
  · replace hT := hTt c2
    refine g_sipush (npc := 14) (x := (-10002)) dX10_reset_11 rfl (by decide) ?_
    exact g_iret dX10_reset_14 rfl rfl (by decide) ⟨_, rfl, hT⟩
  · replace hT := hTf (Int.not_lt.mp c2)
    refine g_iload_n (npc := 6) dX10_reset_5 rfl rfl rfl ?_
    refine g_bipush (npc := 8) (x := 8) dX10_reset_6 rfl (by decide) ?_
    obtain ⟨h3, hTt, hTf⟩ := hT
    refine g_icmp_le (npc := 11) (tgt := 15) dX10_reset_8 rfl (by decide) ⟨h3, by decide, by decide⟩ (fun c4 => ?_) (fun c4 => ?_)
    · replace hT := hTt c4
      refine g_aload_n (npc := 16) dX10_reset_15 rfl rfl rfl ?_
      refine gf_Cg_12 (npc := 19) dX10_reset_16 rfl rfl ?_
      refine gf_Cg_98 (npc := 22) dX10_reset_19 rfl rfl ?_
      refine g_istore_n (npc := 23) (l' := [(0, .ref 0), (1, iV x1), (2, iV (s 1 0))]) dX10_reset_22 rfl rfl (by decide) rfl ?_
      refine g_aload_n (npc := 24) dX10_reset_23 rfl rfl rfl ?_
      refine g_iload_n (npc := 25) dX10_reset_24 rfl rfl rfl ?_
      obtain ⟨Q5, h6, hT⟩ := hT
      refine iv_Cg_102 (npc := 28) dX10_reset_25 rfl rfl (Nat.le_of_ble_eq_true rfl) (by decide) (by decide) h6 (fun s7 e9 => ?_)
      replace hT := hT s7 e9
      refine g_iload_n (npc := 29) dX10_reset_28 rfl rfl rfl ?_
      exact g_iret dX10_reset_29 rfl rfl (by decide) ⟨_, rfl, hT⟩
    · replace hT := hTf (Int.not_le.mp c4)
      refine g_sipush (npc := 14) (x := (-10002)) dX10_reset_11 rfl (by decide) ?_
      exact g_iret dX10_reset_14 rfl rfl (by decide) ⟨_, rfl, hT⟩
set_option maxRecDepth 20000 in
theorem e_Cg_addEdge {n : Nat} {x1 : Int} {x2 : Int} {s : Sto} {Q : Int → Sto → Prop} (hT : ∃ Q1 : Int → Sto → Prop, K_Gr_hasNode n x1 s Q1 ∧ ∀ r4 s3, Q1 r4 s3 → (-2147483648 ≤ r4 ∧ r4 < 2147483648) ∧ ((r4 = 0) → Q (-10001) s3) ∧ ((¬ r4 = 0) → ∃ Q8 : Int → Sto → Prop, K_Gr_hasNode n x2 s3 Q8 ∧ ∀ r11 s10, Q8 r11 s10 → (-2147483648 ≤ r11 ∧ r11 < 2147483648) ∧ ((¬ r11 = 0) → ((-2147483648 ≤ x1 ∧ x1 < 2147483648) ∧ -2147483648 ≤ x2 ∧ x2 < 2147483648) ∧ ((¬ x1 = x2) → (-2147483648 ≤ (s10 1 1) ∧ (s10 1 1) < 2147483648) ∧ (((s10 1 1) < 20) → ∃ Q19 : Sto → Prop, K_Gr_append n x1 x2 s10 Q19 ∧ ∀ s21, Q19 s21 → ∃ Q24 : Sto → Prop, K_Cg_forgetStates n s21 Q24 ∧ ∀ s26, Q24 s26 → Q ((s26 1 1) - 1) s26) ∧ ((20 ≤ (s10 1 1)) → Q (-10005) s10)) ∧ ((x1 = x2) → Q (-10002) s10)) ∧ ((r11 = 0) → Q (-10001) s10))) : K_Cg_addEdge n x1 x2 s Q := by
  refine Sp.body (by decide +kernel) (Nat.le_of_ble_eq_true rfl) ?_
  show Go (SL n) M_Cg_addEdge (fI Q) 0 0 0 [(0, .ref 0), (1, iV x1), (2, iV x2)] [] s
  refine g_aload_n (npc := 1) dX10_addEdge_0 rfl rfl rfl ?_
  refine gf_Cg_12 (npc := 4) dX10_addEdge_1 rfl rfl ?_
  refine g_iload_n (npc := 5) dX10_addEdge_4 rfl rfl rfl ?_
  obtain ⟨Q1, h2, hT⟩ := hT
  refine iv_Cg_105 (npc := 8) dX10_addEdge_5 rfl rfl (Nat.le_of_ble_eq_true rfl) (by decide) (by decide) h2 (fun r4 s3 e5 => ?_)
  replace hT := hT r4 s3 e5
  obtain ⟨h6, hTt, hTf⟩ := hT
  refine g_if_eq (npc := 11) (tgt := 22) dX10_addEdge_8 rfl (by decide) h6 (fun c7 => ?_) (fun c7 => ?_)
  · replace hT := hTt c7
    refine g_sipush (npc := 25) (x := (-10001)) dX10_addEdge_22 rfl (by decide) ?_
    exact g_iret dX10_addEdge_25 rfl rfl (by decide) ⟨_, rfl, hT⟩
  · replace hT := hTf c7
    refine g_aload_n (npc := 12) dX10_addEdge_11 rfl rfl rfl ?_
    refine gf_Cg_12 (npc := 15) dX10_addEdge_12 rfl rfl ?_
    refine g_iload_n (npc := 16) dX10_addEdge_15 rfl rfl rfl ?_
    obtain ⟨Q8, h9, hT⟩ := hT
    refine iv_Cg_105 (npc := 19) dX10_addEdge_16 rfl rfl (Nat.le_of_ble_eq_true rfl) (by decide) (by decide) h9 (fun r11 s10 e12 => ?_)
    replace hT := hT r11 s10 e12
    obtain ⟨h13, hTt, hTf⟩ := hT
    refine g_if_ne (npc := 22) (tgt := 26) dX10_addEdge_19 rfl (by decide) h13 (fun c14 => ?_) (fun c14 => ?_)
    · replace hT := hTt c14
      refine g_iload_n (npc := 27) dX10_addEdge_26 rfl rfl rfl ?_
      refine g_iload_n (npc := 28) dX10_addEdge_27 rfl rfl rfl ?_
      obtain ⟨h15, hTt, hTf⟩ := hT
      refine g_icmp_ne (npc := 31) (tgt := 35) dX10_addEdge_28 rfl (by decide) h15 (fun c16 => ?_) (fun c16 => ?_)
      · replace hT := hTt c16
        refine g_aload_n (npc := 36) dX10_addEdge_35 rfl rfl rfl ?_
        refine gf_Cg_12 (npc := 39) dX10_addEdge_36 rfl rfl ?_
        refine gf_Cg_109 (npc := 42) dX10_addEdge_39 rfl rfl ?_
        refine g_bipush (npc := 44) (x := 20) dX10_addEdge_42 rfl (by decide) ?_
        obtain ⟨h17, hTt, hTf⟩ := hT
        refine g_icmp_lt (npc := 47) (tgt := 51) dX10_addEdge_44 rfl (by decide) ⟨h17, by decide, by decide⟩ (fun c18 => ?_) (fun c18 => ?_)
        · replace hT := hTt c18
          refine g_aload_n (npc := 52) dX10_addEdge_51 rfl rfl rfl ?_
          refine gf_Cg_12 (npc := 55) dX10_addEdge_52 rfl rfl ?_
          refine g_iload_n (npc := 56) dX10_addEdge_55 rfl rfl rfl ?_
          refine g_iload_n (npc := 57) dX10_addEdge_56 rfl rfl rfl ?_
          obtain ⟨Q19, h20, hT⟩ := hT
          refine iv_Cg_94 (npc := 60) dX10_addEdge_57 rfl rfl (Nat.le_of_ble_eq_true rfl) (by decide) (by decide) h20 (fun s21 e23 => ?_)
          replace hT := hT s21 e23
          refine g_aload_n (npc := 61) dX10_addEdge_60 rfl rfl rfl ?_
          obtain ⟨Q24, h25, hT⟩ := hT
          refine iv_Cg_112 (npc := 64) dX10_addEdge_61 rfl rfl (Nat.le_of_ble_eq_true rfl) (by decide) (by decide) h25 (fun s26 e28 => ?_)
          replace hT := hT s26 e28
          refine g_aload_n (npc := 65) dX10_addEdge_64 rfl rfl rfl ?_
          refine gf_Cg_12 (npc := 68) dX10_addEdge_65 rfl rfl ?_
          refine gf_Cg_109 (npc := 71) dX10_addEdge_68 rfl rfl ?_
          refine g_iconst (npc := 72) dX10_addEdge_71 rfl ?_
          refine g_isub (npc := 73) dX10_addEdge_72 rfl ?_
          exact g_iret dX10_addEdge_73 rfl rfl (by decide) ⟨_, rfl, hT⟩
        · replace hT := hTf (Int.not_lt.mp c18)
          refine g_sipush (npc := 50) (x := (-10005)) dX10_addEdge_47 rfl (by decide) ?_
          exact g_iret dX10_addEdge_50 rfl rfl (by decide) ⟨_, rfl, hT⟩
      · replace hT := hTf (Decidable.not_not.mp c16)
        refine g_sipush (npc := 34) (x := (-10002)) dX10_addEdge_31 rfl (by decide) ?_
        exact g_iret dX10_addEdge_34 rfl rfl (by decide) ⟨_, rfl, hT⟩
    · replace hT := hTf (Decidable.not_not.mp c14)
      refine g_sipush (npc := 25) (x := (-10001)) dX10_addEdge_22 rfl (by decide) ?_
      exact g_iret dX10_addEdge_25 rfl rfl (by decide) ⟨_, rfl, hT⟩
set_option maxRecDepth 20000 in
theorem e_Cg_removeEdge {n : Nat} {x1 : Int} {s : Sto} {Q : Int → Sto → Prop} (hT : ∃ Q1 : Int → Sto → Prop, K_Gr_hasEdge n x1 s Q1 ∧ ∀ r4 s3, Q1 r4 s3 → (-2147483648 ≤ r4 ∧ r4 < 2147483648) ∧ ((¬ r4 = 0) → ∃ Q8 : Sto → Prop, K_Gr_drop n x1 s3 Q8 ∧ ∀ s10, Q8 s10 → ∃ Q13 : Sto → Prop, K_Cg_forgetStates n s10 Q13 ∧ ∀ s15, Q13 s15 → Q (s15 1 1) s15) ∧ ((r4 = 0) → Q (-10001) s3)) : K_Cg_removeEdge n x1 s Q := by
  refine Sp.body (by decide +kernel) (Nat.le_of_ble_eq_true rfl) ?_
  show Go (SL n) M_Cg_removeEdge (fI Q) 0 0 0 [(0, .ref 0), (1, iV x1)] [] s
  refine g_aload_n (npc := 1) dX10_removeEdge_0 rfl rfl rfl ?_
  refine gf_Cg_12 (npc := 4) dX10_removeEdge_1 rfl rfl ?_
  refine g_iload_n (npc := 5) dX10_removeEdge_4 rfl rfl rfl ?_
  obtain ⟨Q1, h2, hT⟩ := hT
  refine iv_Cg_115 (npc := 8) dX10_removeEdge_5 rfl rfl (Nat.le_of_ble_eq_true rfl) (by decide) (by decide) h2 (fun r4 s3 e5 => ?_)
  replace hT := hT r4 s3 e5
  obtain ⟨h6, hTt, hTf⟩ := hT
  refine g_if_ne (npc := 11) (tgt := 15) dX10_removeEdge_8 rfl (by decide) h6 (fun c7 => ?_) (fun c7 => ?_)
  · replace hT := hTt c7
    refine g_aload_n (npc := 16) dX10_removeEdge_15 rfl rfl rfl ?_
    refine gf_Cg_12 (npc := 19) dX10_removeEdge_16 rfl rfl ?_
    refine g_iload_n (npc := 20) dX10_removeEdge_19 rfl rfl rfl ?_
    obtain ⟨Q8, h9, hT⟩ := hT
    refine iv_Cg_118 (npc := 23) dX10_removeEdge_20 rfl rfl (Nat.le_of_ble_eq_true rfl) (by decide) (by decide) h9 (fun s10 e12 => ?_)
    replace hT := hT s10 e12
    refine g_aload_n (npc := 24) dX10_removeEdge_23 rfl rfl rfl ?_
    obtain ⟨Q13, h14, hT⟩ := hT
    refine iv_Cg_112 (npc := 27) dX10_removeEdge_24 rfl rfl (Nat.le_of_ble_eq_true rfl) (by decide) (by decide) h14 (fun s15 e17 => ?_)
    replace hT := hT s15 e17
    refine g_aload_n (npc := 28) dX10_removeEdge_27 rfl rfl rfl ?_
    refine gf_Cg_12 (npc := 31) dX10_removeEdge_28 rfl rfl ?_
    refine gf_Cg_109 (npc := 34) dX10_removeEdge_31 rfl rfl ?_
    exact g_iret dX10_removeEdge_34 rfl rfl (by decide) ⟨_, rfl, hT⟩
  · replace hT := hTf (Decidable.not_not.mp c7)
    refine g_sipush (npc := 14) (x := (-10001)) dX10_removeEdge_11 rfl (by decide) ?_
    exact g_iret dX10_removeEdge_14 rfl rfl (by decide) ⟨_, rfl, hT⟩
set_option maxRecDepth 20000 in
theorem e_Cg_setSink {n : Nat} {x1 : Int} {s : Sto} {Q : Int → Sto → Prop} (hT : ∃ Q1 : Int → Sto → Prop, K_Gr_hasNode n x1 s Q1 ∧ ∀ r4 s3, Q1 r4 s3 → (-2147483648 ≤ r4 ∧ r4 < 2147483648) ∧ ((¬ r4 = 0) → ((-2147483648 ≤ x1 ∧ x1 < 2147483648) ∧ -2147483648 ≤ (s3 1 2) ∧ (s3 1 2) < 2147483648) ∧ ((x1 = (s3 1 2)) → Q (s3 1 2) s3) ∧ ((¬ x1 = (s3 1 2)) → ∀ s10, s10 = up s3 1 2 x1 → (0 ≤ x1 ∧ x1 < 8) ∧ ∀ s12, s12 = up s10 187 (Int.toNat x1) 0 → ∃ Q13 : Sto → Prop, K_Cg_forgetStates n s12 Q13 ∧ ∀ s15, Q13 s15 → Q (s3 1 2) s15)) ∧ ((r4 = 0) → Q (-10001) s3)) : K_Cg_setSink n x1 s Q := by
  refine Sp.body (by decide +kernel) (Nat.le_of_ble_eq_true rfl) ?_
  show Go (SL n) M_Cg_setSink (fI Q) 0 0 0 [(0, .ref 0), (1, iV x1)] [] s
  refine g_aload_n (npc := 1) dX10_setSink_0 rfl rfl rfl ?_
  refine gf_Cg_12 (npc := 4) dX10_setSink_1 rfl rfl ?_
  refine g_iload_n (npc := 5) dX10_setSink_4 rfl rfl rfl ?_
  obtain ⟨Q1, h2, hT⟩ := hT
  refine iv_Cg_105 (npc := 8) dX10_setSink_5 rfl rfl (Nat.le_of_ble_eq_true rfl) (by decide) (by decide) h2 (fun r4 s3 e5 => ?_)
  replace hT := hT r4 s3 e5
  obtain ⟨h6, hTt, hTf⟩ := hT
  refine g_if_ne (npc := 11) (tgt := 15) dX10_setSink_8 rfl (by decide) h6 (fun c7 => ?_) (fun c7 => ?_)
  · replace hT := hTt c7
    refine g_aload_n (npc := 16) dX10_setSink_15 rfl rfl rfl ?_
    refine gf_Cg_12 (npc := 19) dX10_setSink_16 rfl rfl ?_
    refine gf_Cg_121 (npc := 22) dX10_setSink_19 rfl rfl ?_
    refine g_istore_n (npc := 23) (l' := [(0, .ref 0), (1, iV x1), (2, iV (s3 1 2))]) dX10_setSink_22 rfl rfl (by decide) rfl ?_
    refine g_iload_n (npc := 24) dX10_setSink_23 rfl rfl rfl ?_
    refine g_iload_n (npc := 25) dX10_setSink_24 rfl rfl rfl ?_
    obtain ⟨h8, hTt, hTf⟩ := hT
    refine g_icmp_eq (npc := 28) (tgt := 47) dX10_setSink_25 rfl (by decide) h8 (fun c9 => ?_) (fun c9 => ?_)
    · replace hT := hTt c9
      refine g_iload_n (npc := 48) dX10_setSink_47 rfl rfl rfl ?_
      exact g_iret dX10_setSink_48 rfl rfl (by decide) ⟨_, rfl, hT⟩
    · replace hT := hTf c9
      refine g_aload_n (npc := 29) dX10_setSink_28 rfl rfl rfl ?_
      refine gf_Cg_12 (npc := 32) dX10_setSink_29 rfl rfl ?_
      refine g_iload_n (npc := 33) dX10_setSink_32 rfl rfl rfl ?_
      replace hT := hT _ rfl
      refine pf_Cg_121 (npc := 36) dX10_setSink_33 rfl rfl ?_
      refine g_aload_n (npc := 37) dX10_setSink_36 rfl rfl rfl ?_
      refine gf_Cg_80 (npc := 40) dX10_setSink_37 rfl rfl ?_
      refine g_iload_n (npc := 41) dX10_setSink_40 rfl rfl rfl ?_
      refine g_iconst (npc := 42) dX10_setSink_41 rfl ?_
      obtain ⟨h11, hT⟩ := hT
      replace hT := hT _ rfl
      refine g_iast (npc := 43) dX10_setSink_42 rfl (arSL arSC_187) h11  ?_
      refine g_aload_n (npc := 44) dX10_setSink_43 rfl rfl rfl ?_
      obtain ⟨Q13, h14, hT⟩ := hT
      refine iv_Cg_112 (npc := 47) dX10_setSink_44 rfl rfl (Nat.le_of_ble_eq_true rfl) (by decide) (by decide) h14 (fun s15 e17 => ?_)
      replace hT := hT s15 e17
      refine g_iload_n (npc := 48) dX10_setSink_47 rfl rfl rfl ?_
      exact g_iret dX10_setSink_48 rfl rfl (by decide) ⟨_, rfl, hT⟩
  · replace hT := hTf (Decidable.not_not.mp c7)
    refine g_sipush (npc := 14) (x := (-10001)) dX10_setSink_11 rfl (by decide) ?_
    exact g_iret dX10_setSink_14 rfl rfl (by decide) ⟨_, rfl, hT⟩
abbrev H_Cg_sumOf_4 (n : Nat) (Q : Int → Sto → Prop) (k0 : Nat) (x1 : Int) (x2 : Int) (s : Sto) : Prop := Go (SL n) M_Cg_sumOf (fI Q) 0 0 4 [(0, .ref k0), (1, iV x1), (2, iV x2)] [] s
set_option maxRecDepth 20000 in
theorem b_Cg_sumOf_4 {n : Nat} {Q : Int → Sto → Prop} {k0 : Nat} {x1 : Int} {x2 : Int} (hk0 : ar (SL n) k0 1 8) {s : Sto} (hT : (-2147483648 ≤ x2 ∧ x2 < 2147483648) ∧ ((8 ≤ x2) → Q x1 s) ∧ ((x2 < 8) → (0 ≤ x2 ∧ x2 < 8) ∧ H_Cg_sumOf_4 n Q k0 (x1 + (s k0 (Int.toNat x2))) (x2 + 1) s)) : H_Cg_sumOf_4 n Q k0 x1 x2 s := by
  refine g_iload_n (npc := 5) dX10_sumOf_4 rfl rfl rfl ?_
  refine g_aload_n (npc := 6) dX10_sumOf_5 rfl rfl rfl ?_
  refine g_alen (npc := 7) dX10_sumOf_6 rfl hk0 (by decide) ?_
  obtain ⟨h1, hTt, hTf⟩ := hT
  refine g_icmp_ge (npc := 10) (tgt := 22) dX10_sumOf_7 rfl (by decide) ⟨h1, by decide, by decide⟩ (fun c2 => ?_) (fun c2 => ?_)
  · replace hT := hTt c2
    refine g_iload_n (npc := 23) dX10_sumOf_22 rfl rfl rfl ?_
    exact g_iret dX10_sumOf_23 rfl rfl (by decide) ⟨_, rfl, hT⟩
  · replace hT := hTf (Int.not_le.mp c2)
    refine g_iload_n (npc := 11) dX10_sumOf_10 rfl rfl rfl ?_
    refine g_aload_n (npc := 12) dX10_sumOf_11 rfl rfl rfl ?_
    refine g_iload_n (npc := 13) dX10_sumOf_12 rfl rfl rfl ?_
    obtain ⟨h3, hT⟩ := hT
    refine g_iald (npc := 14) dX10_sumOf_13 rfl hk0 h3 ?_
    refine g_iadd (npc := 15) dX10_sumOf_14 rfl ?_
    refine g_istore_n (npc := 16) (l' := [(0, .ref k0), (1, iV (x1 + (s k0 (Int.toNat x2)))), (2, iV x2)]) dX10_sumOf_15 rfl rfl (by decide) rfl ?_
    refine g_iinc (npc := 19) (y := (x2 + 1)) (l' := [(0, .ref k0), (1, iV (x1 + (s k0 (Int.toNat x2)))), (2, iV (x2 + 1))]) dX10_sumOf_16 rfl (by decide) rfl (by omega) rfl ?_
    refine g_goto (npc := 4) dX10_sumOf_19 (by decide) ?_
    exact hT
set_option maxRecDepth 20000 in
theorem e_Cg_sumOf {n : Nat} {k0 : Nat} (hk0 : ar (SL n) k0 1 8) {s : Sto} {Q : Int → Sto → Prop} (hT : H_Cg_sumOf_4 n Q k0 0 0 s) : K_Cg_sumOf n k0 s Q := by
  refine Sp.body (by decide +kernel) (Nat.le_of_ble_eq_true rfl) ?_
  show Go (SL n) M_Cg_sumOf (fI Q) 0 0 0 [(0, .ref k0)] [] s
  refine g_iconst (npc := 1) dX10_sumOf_0 rfl ?_
  refine g_istore_n (npc := 2) (l' := [(0, .ref k0), (1, iV 0)]) dX10_sumOf_1 rfl rfl (by decide) rfl ?_
  refine g_iconst (npc := 3) dX10_sumOf_2 rfl ?_
  refine g_istore_n (npc := 4) (l' := [(0, .ref k0), (1, iV 0), (2, iV 0)]) dX10_sumOf_3 rfl rfl (by decide) rfl ?_
  exact hT
set_option maxRecDepth 20000 in
theorem e_Cg_value {n : Nat} {x1 : Int} {s : Sto} {Q : Int → Sto → Prop} (hT : (-2147483648 ≤ x1 ∧ x1 < 2147483648) ∧ (x1 = 0 → Q (s 1 0) s) ∧ (x1 = 1 → Q (s 1 1) s) ∧ (x1 = 2 → Q (s 1 2) s) ∧ (x1 = 3 → ∃ Q2 : Int → Sto → Prop, K_Gr_isConnected n s Q2 ∧ ∀ r5 s4, Q2 r5 s4 → (-2147483648 ≤ r5 ∧ r5 < 2147483648) ∧ ((r5 = 0) → Q 0 s4) ∧ ((¬ r5 = 0) → Q 1 s4)) ∧ (x1 = 4 → ∃ Q9 : Int → Sto → Prop, K_Cg_sumOf n 187 s Q9 ∧ ∀ r12 s11, Q9 r12 s11 → Q r12 s11) ∧ (x1 = 5 → Q (s 17 0) s) ∧ (x1 = 6 → ∃ Q14 : Int → Sto → Prop, K_Gr_edgesAwayFromSink n s Q14 ∧ ∀ r17 s16, Q14 r17 s16 → Q r17 s16) ∧ ((x1 < 0 ∨ 6 < x1) → Q (-10002) s)) : K_Cg_value n x1 s Q := by
  refine Sp.body (by decide +kernel) (Nat.le_of_ble_eq_true rfl) ?_
  show Go (SL n) M_Cg_value (fI Q) 0 0 0 [(0, .ref 0), (1, iV x1)] [] s
  refine g_iload_n (npc := 1) dX10_value_0 rfl rfl rfl ?_
  obtain ⟨h1, hs19, hs20, hs21, hs22, hs23, hs24, hs25, hs26⟩ := hT
  rcases (show x1 = 0 ∨ x1 = 1 ∨ x1 = 2 ∨ x1 = 3 ∨ x1 = 4 ∨ x1 = 5 ∨ x1 = 6 ∨ (x1 < 0 ∨ 6 < x1) from by omega) with c27 | c27 | c27 | c27 | c27 | c27 | c27 | c27
  · replace hT := hs19 c27
    refine g_tabIn (j := 0) (tgt := 44) dX10_value_1 h1 (by omega) (by omega) rfl (by decide) ?_
    refine g_aload_n (npc := 45) dX10_value_44 rfl rfl rfl ?_
    refine gf_Cg_12 (npc := 48) dX10_value_45 rfl rfl ?_
    refine gf_Cg_98 (npc := 51) dX10_value_48 rfl rfl ?_
    exact g_iret dX10_value_51 rfl rfl (by decide) ⟨_, rfl, hT⟩
  · replace hT := hs20 c27
    refine g_tabIn (j := 1) (tgt := 52) dX10_value_1 h1 (by omega) (by omega) rfl (by decide) ?_
    refine g_aload_n (npc := 53) dX10_value_52 rfl rfl rfl ?_
    refine gf_Cg_12 (npc := 56) dX10_value_53 rfl rfl ?_
    refine gf_Cg_109 (npc := 59) dX10_value_56 rfl rfl ?_
    exact g_iret dX10_value_59 rfl rfl (by decide) ⟨_, rfl, hT⟩
  · replace hT := hs21 c27
    refine g_tabIn (j := 2) (tgt := 60) dX10_value_1 h1 (by omega) (by omega) rfl (by decide) ?_
    refine g_aload_n (npc := 61) dX10_value_60 rfl rfl rfl ?_
    refine gf_Cg_12 (npc := 64) dX10_value_61 rfl rfl ?_
    refine gf_Cg_121 (npc := 67) dX10_value_64 rfl rfl ?_
    exact g_iret dX10_value_67 rfl rfl (by decide) ⟨_, rfl, hT⟩
  · replace hT := hs22 c27
    refine g_tabIn (j := 3) (tgt := 68) dX10_value_1 h1 (by omega) (by omega) rfl (by decide) ?_
    refine g_aload_n (npc := 69) dX10_value_68 rfl rfl rfl ?_
    refine gf_Cg_12 (npc := 72) dX10_value_69 rfl rfl ?_
    obtain ⟨Q2, h3, hT⟩ := hT
    refine iv_Cg_147 (npc := 75) dX10_value_72 rfl rfl (Nat.le_of_ble_eq_true rfl) (by decide) (by decide) h3 (fun r5 s4 e6 => ?_)
    replace hT := hT r5 s4 e6
    obtain ⟨h7, hTt, hTf⟩ := hT
    refine g_if_eq (npc := 78) (tgt := 82) dX10_value_75 rfl (by decide) h7 (fun c8 => ?_) (fun c8 => ?_)
    · replace hT := hTt c8
      refine g_iconst (npc := 83) dX10_value_82 rfl ?_
      exact g_iret dX10_value_83 rfl rfl (by decide) ⟨_, rfl, hT⟩
    · replace hT := hTf c8
      refine g_iconst (npc := 79) dX10_value_78 rfl ?_
      refine g_goto (npc := 83) dX10_value_79 (by decide) ?_
      exact g_iret dX10_value_83 rfl rfl (by decide) ⟨_, rfl, hT⟩
  · replace hT := hs23 c27
    refine g_tabIn (j := 4) (tgt := 84) dX10_value_1 h1 (by omega) (by omega) rfl (by decide) ?_
    refine g_aload_n (npc := 85) dX10_value_84 rfl rfl rfl ?_
    refine gf_Cg_80 (npc := 88) dX10_value_85 rfl rfl ?_
    obtain ⟨Q9, h10, hT⟩ := hT
    refine iv_Cg_151 (npc := 91) dX10_value_88 rfl rfl (Nat.le_of_ble_eq_true rfl) (by decide) (by decide) h10 (fun r12 s11 e13 => ?_)
    replace hT := hT r12 s11 e13
    exact g_iret dX10_value_91 rfl rfl (by decide) ⟨_, rfl, hT⟩
  · replace hT := hs24 c27
    refine g_tabIn (j := 5) (tgt := 92) dX10_value_1 h1 (by omega) (by omega) rfl (by decide) ?_
    refine g_aload_n (npc := 93) dX10_value_92 rfl rfl rfl ?_
    refine gf_Cg_28 (npc := 96) dX10_value_93 rfl rfl ?_
    refine gf_Cg_155 (npc := 99) dX10_value_96 rfl rfl ?_
    exact g_iret dX10_value_99 rfl rfl (by decide) ⟨_, rfl, hT⟩
  · replace hT := hs25 c27
    refine g_tabIn (j := 6) (tgt := 100) dX10_value_1 h1 (by omega) (by omega) rfl (by decide) ?_
    refine g_aload_n (npc := 101) dX10_value_100 rfl rfl rfl ?_
    refine gf_Cg_12 (npc := 104) dX10_value_101 rfl rfl ?_
    obtain ⟨Q14, h15, hT⟩ := hT
    refine iv_Cg_158 (npc := 107) dX10_value_104 rfl rfl (Nat.le_of_ble_eq_true rfl) (by decide) (by decide) h15 (fun r17 s16 e18 => ?_)
    replace hT := hT r17 s16 e18
    exact g_iret dX10_value_107 rfl rfl (by decide) ⟨_, rfl, hT⟩
  · replace hT := hs26 c27
    refine g_tabOut (tgt := 108) dX10_value_1 h1 c27 (by decide) ?_
    refine g_sipush (npc := 111) (x := (-10002)) dX10_value_108 rfl (by decide) ?_
    exact g_iret dX10_value_111 rfl rfl (by decide) ⟨_, rfl, hT⟩
set_option maxRecDepth 20000 in
theorem e_Cg_edge {n : Nat} {x1 : Int} {x2 : Int} {s : Sto} {Q : Int → Sto → Prop} (hT : ∃ Q1 : Int → Sto → Prop, K_Gr_hasEdge n x1 s Q1 ∧ ∀ r4 s3, Q1 r4 s3 → (-2147483648 ≤ r4 ∧ r4 < 2147483648) ∧ ((¬ r4 = 0) → (-2147483648 ≤ x2 ∧ x2 < 2147483648) ∧ ((x2 = 0) → (0 ≤ x1 ∧ x1 < 20) ∧ Q (s3 2 (Int.toNat x1)) s3) ∧ ((¬ x2 = 0) → (0 ≤ x1 ∧ x1 < 20) ∧ Q (s3 3 (Int.toNat x1)) s3)) ∧ ((r4 = 0) → Q (-10001) s3)) : K_Cg_edge n x1 x2 s Q := by
  refine Sp.body (by decide +kernel) (Nat.le_of_ble_eq_true rfl) ?_
  show Go (SL n) M_Cg_edge (fI Q) 0 0 0 [(0, .ref 0), (1, iV x1), (2, iV x2)] [] s
  refine g_aload_n (npc := 1) dX10_edge_0 rfl rfl rfl ?_
  refine gf_Cg_12 (npc := 4) dX10_edge_1 rfl rfl ?_
  refine g_iload_n (npc := 5) dX10_edge_4 rfl rfl rfl ?_
  obtain ⟨Q1, h2, hT⟩ := hT
  refine iv_Cg_115 (npc := 8) dX10_edge_5 rfl rfl (Nat.le_of_ble_eq_true rfl) (by decide) (by decide) h2 (fun r4 s3 e5 => ?_)
  replace hT := hT r4 s3 e5
  obtain ⟨h6, hTt, hTf⟩ := hT
  refine g_if_ne (npc := 11) (tgt := 15) dX10_edge_8 rfl (by decide) h6 (fun c7 => ?_) (fun c7 => ?_)
  · replace hT := hTt c7
    refine g_iload_n (npc := 16) dX10_edge_15 rfl rfl rfl ?_
    obtain ⟨h8, hTt, hTf⟩ := hT
    refine g_if_eq (npc := 19) (tgt := 31) dX10_edge_16 rfl (by decide) h8 (fun c9 => ?_) (fun c9 => ?_)
    · replace hT := hTt c9
      refine g_aload_n (npc := 32) dX10_edge_31 rfl rfl rfl ?_
      refine gf_Cg_12 (npc := 35) dX10_edge_32 rfl rfl ?_
      refine gf_Cg_168 (npc := 38) dX10_edge_35 rfl rfl ?_
      refine g_iload_n (npc := 39) dX10_edge_38 rfl rfl rfl ?_
      obtain ⟨h10, hT⟩ := hT
      refine g_iald (npc := 40) dX10_edge_39 rfl (arSL arSC_2) h10 ?_
      exact g_iret dX10_edge_40 rfl rfl (by decide) ⟨_, rfl, hT⟩
    · replace hT := hTf c9
      refine g_aload_n (npc := 20) dX10_edge_19 rfl rfl rfl ?_
      refine gf_Cg_12 (npc := 23) dX10_edge_20 rfl rfl ?_
      refine gf_Cg_165 (npc := 26) dX10_edge_23 rfl rfl ?_
      refine g_iload_n (npc := 27) dX10_edge_26 rfl rfl rfl ?_
      obtain ⟨h11, hT⟩ := hT
      refine g_iald (npc := 28) dX10_edge_27 rfl (arSL arSC_3) h11 ?_
      refine g_goto (npc := 40) dX10_edge_28 (by decide) ?_
      exact g_iret dX10_edge_40 rfl rfl (by decide) ⟨_, rfl, hT⟩
  · replace hT := hTf (Decidable.not_not.mp c7)
    refine g_sipush (npc := 14) (x := (-10001)) dX10_edge_11 rfl (by decide) ?_
    exact g_iret dX10_edge_14 rfl rfl (by decide) ⟨_, rfl, hT⟩
abbrev H_Cg_copyChips_2 (n : Nat) (Q : Sto → Prop) (k0 : Nat) (k1 : Nat) (x2 : Int) (s : Sto) : Prop := Go (SL n) M_Cg_copyChips (fV0 Q) 0 0 2 [(0, .ref k0), (1, .ref k1), (2, iV x2)] [] s
set_option maxRecDepth 20000 in
theorem b_Cg_copyChips_2 {n : Nat} {Q : Sto → Prop} {k0 : Nat} {k1 : Nat} {x2 : Int} (hk0 : ar (SL n) k0 1 8) (hk1 : ar (SL n) k1 1 8) {s : Sto} (hT : (-2147483648 ≤ x2 ∧ x2 < 2147483648) ∧ ((8 ≤ x2) → Q s) ∧ ((x2 < 8) → (-2147483648 ≤ x2 ∧ x2 < 2147483648) ∧ ((8 ≤ x2) → Q s) ∧ ((x2 < 8) → (0 ≤ x2 ∧ x2 < 8) ∧ (0 ≤ x2 ∧ x2 < 8) ∧ ∀ s7, s7 = up s k1 (Int.toNat x2) (s k0 (Int.toNat x2)) → H_Cg_copyChips_2 n Q k0 k1 (x2 + 1) s7))) : H_Cg_copyChips_2 n Q k0 k1 x2 s := by
  refine g_iload_n (npc := 3) dX10_copyChips_2 rfl rfl rfl ?_
  refine g_aload_n (npc := 4) dX10_copyChips_3 rfl rfl rfl ?_
  refine g_alen (npc := 5) dX10_copyChips_4 rfl hk0 (by decide) ?_
  obtain ⟨h1, hTt, hTf⟩ := hT
  refine g_icmp_ge (npc := 8) (tgt := 26) dX10_copyChips_5 rfl (by decide) ⟨h1, by decide, by decide⟩ (fun c2 => ?_) (fun c2 => ?_)
  · replace hT := hTt c2
    exact g_ret dX10_copyChips_26 rfl (by decide) ⟨rfl, hT⟩
  · replace hT := hTf (Int.not_le.mp c2)
    refine g_iload_n (npc := 9) dX10_copyChips_8 rfl rfl rfl ?_
    refine g_aload_n (npc := 10) dX10_copyChips_9 rfl rfl rfl ?_
    refine g_alen (npc := 11) dX10_copyChips_10 rfl hk1 (by decide) ?_
    obtain ⟨h3, hTt, hTf⟩ := hT
    refine g_icmp_ge (npc := 14) (tgt := 26) dX10_copyChips_11 rfl (by decide) ⟨h3, by decide, by decide⟩ (fun c4 => ?_) (fun c4 => ?_)
    · replace hT := hTt c4
      exact g_ret dX10_copyChips_26 rfl (by decide) ⟨rfl, hT⟩
    · replace hT := hTf (Int.not_le.mp c4)
      refine g_aload_n (npc := 15) dX10_copyChips_14 rfl rfl rfl ?_
      refine g_iload_n (npc := 16) dX10_copyChips_15 rfl rfl rfl ?_
      refine g_aload_n (npc := 17) dX10_copyChips_16 rfl rfl rfl ?_
      refine g_iload_n (npc := 18) dX10_copyChips_17 rfl rfl rfl ?_
      obtain ⟨h5, hT⟩ := hT
      refine g_iald (npc := 19) dX10_copyChips_18 rfl hk0 h5 ?_
      obtain ⟨h6, hT⟩ := hT
      replace hT := hT _ rfl
      refine g_iast (npc := 20) dX10_copyChips_19 rfl hk1 h6  ?_
      refine g_iinc (npc := 23) (y := (x2 + 1)) (l' := [(0, .ref k0), (1, .ref k1), (2, iV (x2 + 1))]) dX10_copyChips_20 rfl (by decide) rfl (by omega) rfl ?_
      refine g_goto (npc := 2) dX10_copyChips_23 (by decide) ?_
      exact hT
set_option maxRecDepth 20000 in
theorem e_Cg_copyChips {n : Nat} {k0 : Nat} {k1 : Nat} (hk0 : ar (SL n) k0 1 8) (hk1 : ar (SL n) k1 1 8) {s : Sto} {Q : Sto → Prop} (hT : H_Cg_copyChips_2 n Q k0 k1 0 s) : K_Cg_copyChips n k0 k1 s Q := by
  refine Sp.body (by decide +kernel) (Nat.le_of_ble_eq_true rfl) ?_
  show Go (SL n) M_Cg_copyChips (fV0 Q) 0 0 0 [(0, .ref k0), (1, .ref k1)] [] s
  refine g_iconst (npc := 1) dX10_copyChips_0 rfl ?_
  refine g_istore_n (npc := 2) (l' := [(0, .ref k0), (1, .ref k1), (2, iV 0)]) dX10_copyChips_1 rfl rfl (by decide) rfl ?_
  exact hT
set_option maxRecDepth 20000 in
theorem e_Cg_setChips {n : Nat} {x1 : Int} {x2 : Int} {s : Sto} {Q : Int → Sto → Prop} (hT : ∃ Q1 : Int → Sto → Prop, K_Gr_hasChipsAt n x1 s Q1 ∧ ∀ r4 s3, Q1 r4 s3 → (-2147483648 ≤ r4 ∧ r4 < 2147483648) ∧ ((¬ r4 = 0) → (-2147483648 ≤ x2 ∧ x2 < 2147483648) ∧ ((x2 < 0) → Q (-10002) s3) ∧ ((0 ≤ x2) → (-2147483648 ≤ x2 ∧ x2 < 2147483648) ∧ ((x2 ≤ 1000) → ∃ Q12 : Sto → Prop, K_Hi_record n 187 s3 Q12 ∧ ∀ s14, Q12 s14 → (0 ≤ x1 ∧ x1 < 8) ∧ (0 ≤ x1 ∧ x1 < 8) ∧ ∀ s19, s19 = up s14 187 (Int.toNat x1) x2 → Q (s14 187 (Int.toNat x1)) s19) ∧ ((1000 < x2) → Q (-10002) s3))) ∧ ((r4 = 0) → Q (-10001) s3)) : K_Cg_setChips n x1 x2 s Q := by
  refine Sp.body (by decide +kernel) (Nat.le_of_ble_eq_true rfl) ?_
  show Go (SL n) M_Cg_setChips (fI Q) 0 0 0 [(0, .ref 0), (1, iV x1), (2, iV x2)] [] s
  refine g_aload_n (npc := 1) dX10_setChips_0 rfl rfl rfl ?_
  refine gf_Cg_12 (npc := 4) dX10_setChips_1 rfl rfl ?_
  refine g_iload_n (npc := 5) dX10_setChips_4 rfl rfl rfl ?_
  obtain ⟨Q1, h2, hT⟩ := hT
  refine iv_Cg_171 (npc := 8) dX10_setChips_5 rfl rfl (Nat.le_of_ble_eq_true rfl) (by decide) (by decide) h2 (fun r4 s3 e5 => ?_)
  replace hT := hT r4 s3 e5
  obtain ⟨h6, hTt, hTf⟩ := hT
  refine g_if_ne (npc := 11) (tgt := 15) dX10_setChips_8 rfl (by decide) h6 (fun c7 => ?_) (fun c7 => ?_)
  · replace hT := hTt c7
    refine g_iload_n (npc := 16) dX10_setChips_15 rfl rfl rfl ?_
    obtain ⟨h8, hTt, hTf⟩ := hT
    refine g_if_lt (npc := 19) (tgt := 26) dX10_setChips_16 rfl (by decide) h8 (fun c9 => ?_) (fun c9 => ?_)
    · replace hT := hTt c9
      refine g_sipush (npc := 29) (x := (-10002)) dX10_setChips_26 rfl (by decide) ?_
      exact g_iret dX10_setChips_29 rfl rfl (by decide) ⟨_, rfl, hT⟩
    · replace hT := hTf (Int.not_lt.mp c9)
      refine g_iload_n (npc := 20) dX10_setChips_19 rfl rfl rfl ?_
      refine g_sipush (npc := 23) (x := 1000) dX10_setChips_20 rfl (by decide) ?_
      obtain ⟨h10, hTt, hTf⟩ := hT
      refine g_icmp_le (npc := 26) (tgt := 30) dX10_setChips_23 rfl (by decide) ⟨h10, by decide, by decide⟩ (fun c11 => ?_) (fun c11 => ?_)
      · replace hT := hTt c11
        refine g_aload_n (npc := 31) dX10_setChips_30 rfl rfl rfl ?_
        refine gf_Cg_28 (npc := 34) dX10_setChips_31 rfl rfl ?_
        refine g_aload_n (npc := 35) dX10_setChips_34 rfl rfl rfl ?_
        refine gf_Cg_80 (npc := 38) dX10_setChips_35 rfl rfl ?_
        obtain ⟨Q12, h13, hT⟩ := hT
        refine iv_Cg_174 (npc := 41) dX10_setChips_38 rfl rfl (Nat.le_of_ble_eq_true rfl) (by decide) (by decide) h13 (fun s14 e16 => ?_)
        replace hT := hT s14 e16
        refine g_aload_n (npc := 42) dX10_setChips_41 rfl rfl rfl ?_
        refine gf_Cg_80 (npc := 45) dX10_setChips_42 rfl rfl ?_
        refine g_iload_n (npc := 46) dX10_setChips_45 rfl rfl rfl ?_
        obtain ⟨h17, hT⟩ := hT
        refine g_iald (npc := 47) dX10_setChips_46 rfl (arSL arSC_187) h17 ?_
        refine g_istore_n (npc := 48) (l' := [(0, .ref 0), (1, iV x1), (2, iV x2), (3, iV (s14 187 (Int.toNat x1)))]) dX10_setChips_47 rfl rfl (by decide) rfl ?_
        refine g_aload_n (npc := 49) dX10_setChips_48 rfl rfl rfl ?_
        refine gf_Cg_80 (npc := 52) dX10_setChips_49 rfl rfl ?_
        refine g_iload_n (npc := 53) dX10_setChips_52 rfl rfl rfl ?_
        refine g_iload_n (npc := 54) dX10_setChips_53 rfl rfl rfl ?_
        obtain ⟨h18, hT⟩ := hT
        replace hT := hT _ rfl
        refine g_iast (npc := 55) dX10_setChips_54 rfl (arSL arSC_187) h18  ?_
        refine g_iload_n (npc := 56) dX10_setChips_55 rfl rfl rfl ?_
        exact g_iret dX10_setChips_56 rfl rfl (by decide) ⟨_, rfl, hT⟩
      · replace hT := hTf (Int.not_le.mp c11)
        refine g_sipush (npc := 29) (x := (-10002)) dX10_setChips_26 rfl (by decide) ?_
        exact g_iret dX10_setChips_29 rfl rfl (by decide) ⟨_, rfl, hT⟩
  · replace hT := hTf (Decidable.not_not.mp c7)
    refine g_sipush (npc := 14) (x := (-10001)) dX10_setChips_11 rfl (by decide) ?_
    exact g_iret dX10_setChips_14 rfl rfl (by decide) ⟨_, rfl, hT⟩
set_option maxRecDepth 20000 in
theorem e_Cg_chips {n : Nat} {x1 : Int} {s : Sto} {Q : Int → Sto → Prop} (hT : ∃ Q1 : Int → Sto → Prop, K_Gr_hasChipsAt n x1 s Q1 ∧ ∀ r4 s3, Q1 r4 s3 → (-2147483648 ≤ r4 ∧ r4 < 2147483648) ∧ ((r4 = 0) → Q (-10001) s3) ∧ ((¬ r4 = 0) → (0 ≤ x1 ∧ x1 < 8) ∧ Q (s3 187 (Int.toNat x1)) s3)) : K_Cg_chips n x1 s Q := by
  refine Sp.body (by decide +kernel) (Nat.le_of_ble_eq_true rfl) ?_
  show Go (SL n) M_Cg_chips (fI Q) 0 0 0 [(0, .ref 0), (1, iV x1)] [] s
  refine g_aload_n (npc := 1) dX10_chips_0 rfl rfl rfl ?_
  refine gf_Cg_12 (npc := 4) dX10_chips_1 rfl rfl ?_
  refine g_iload_n (npc := 5) dX10_chips_4 rfl rfl rfl ?_
  obtain ⟨Q1, h2, hT⟩ := hT
  refine iv_Cg_171 (npc := 8) dX10_chips_5 rfl rfl (Nat.le_of_ble_eq_true rfl) (by decide) (by decide) h2 (fun r4 s3 e5 => ?_)
  replace hT := hT r4 s3 e5
  obtain ⟨h6, hTt, hTf⟩ := hT
  refine g_if_eq (npc := 11) (tgt := 20) dX10_chips_8 rfl (by decide) h6 (fun c7 => ?_) (fun c7 => ?_)
  · replace hT := hTt c7
    refine g_sipush (npc := 23) (x := (-10001)) dX10_chips_20 rfl (by decide) ?_
    exact g_iret dX10_chips_23 rfl rfl (by decide) ⟨_, rfl, hT⟩
  · replace hT := hTf c7
    refine g_aload_n (npc := 12) dX10_chips_11 rfl rfl rfl ?_
    refine gf_Cg_80 (npc := 15) dX10_chips_12 rfl rfl ?_
    refine g_iload_n (npc := 16) dX10_chips_15 rfl rfl rfl ?_
    obtain ⟨h8, hT⟩ := hT
    refine g_iald (npc := 17) dX10_chips_16 rfl (arSL arSC_187) h8 ?_
    refine g_goto (npc := 23) dX10_chips_17 (by decide) ?_
    exact g_iret dX10_chips_23 rfl rfl (by decide) ⟨_, rfl, hT⟩
set_option maxRecDepth 20000 in
theorem e_Cg_isRecurrent {n : Nat} {s : Sto} {Q : Int → Sto → Prop} (hT : ∃ Q1 : Int → Sto → Prop, K_Fi_isStable n 187 s Q1 ∧ ∀ r4 s3, Q1 r4 s3 → (-2147483648 ≤ r4 ∧ r4 < 2147483648) ∧ ((r4 = 0) → Q 0 s3) ∧ ((¬ r4 = 0) → ∃ Q8 : Int → Sto → Prop, K_Gr_isConnected n s3 Q8 ∧ ∀ r11 s10, Q8 r11 s10 → (-2147483648 ≤ r11 ∧ r11 < 2147483648) ∧ ((r11 = 0) → Q 0 s10) ∧ ((¬ r11 = 0) → ∃ Q15 : Int → Sto → Prop, K_Bu_allBurn n 187 s10 Q15 ∧ ∀ r18 s17, Q15 r18 s17 → (-2147483648 ≤ r18 ∧ r18 < 2147483648) ∧ ((r18 = 0) → Q 0 s17) ∧ ((¬ r18 = 0) → Q 1 s17)))) : K_Cg_isRecurrent n s Q := by
  refine Sp.body (by decide +kernel) (Nat.le_of_ble_eq_true rfl) ?_
  show Go (SL n) M_Cg_isRecurrent (fI Q) 0 0 0 [(0, .ref 0)] [] s
  refine g_aload_n (npc := 1) dX10_isRecurrent_0 rfl rfl rfl ?_
  refine gf_Cg_53 (npc := 4) dX10_isRecurrent_1 rfl rfl ?_
  refine g_aload_n (npc := 5) dX10_isRecurrent_4 rfl rfl rfl ?_
  refine gf_Cg_80 (npc := 8) dX10_isRecurrent_5 rfl rfl ?_
  obtain ⟨Q1, h2, hT⟩ := hT
  refine iv_Cg_206 (npc := 11) dX10_isRecurrent_8 rfl rfl (Nat.le_of_ble_eq_true rfl) (by decide) (by decide) h2 (fun r4 s3 e5 => ?_)
  replace hT := hT r4 s3 e5
  obtain ⟨h6, hTt, hTf⟩ := hT
  refine g_if_eq (npc := 14) (tgt := 42) dX10_isRecurrent_11 rfl (by decide) h6 (fun c7 => ?_) (fun c7 => ?_)
  · replace hT := hTt c7
    refine g_iconst (npc := 43) dX10_isRecurrent_42 rfl ?_
    exact g_iret dX10_isRecurrent_43 rfl (by decide) (by decide) ⟨_, rfl, hT⟩
  · replace hT := hTf c7
    refine g_aload_n (npc := 15) dX10_isRecurrent_14 rfl rfl rfl ?_
    refine gf_Cg_12 (npc := 18) dX10_isRecurrent_15 rfl rfl ?_
    obtain ⟨Q8, h9, hT⟩ := hT
    refine iv_Cg_147 (npc := 21) dX10_isRecurrent_18 rfl rfl (Nat.le_of_ble_eq_true rfl) (by decide) (by decide) h9 (fun r11 s10 e12 => ?_)
    replace hT := hT r11 s10 e12
    obtain ⟨h13, hTt, hTf⟩ := hT
    refine g_if_eq (npc := 24) (tgt := 42) dX10_isRecurrent_21 rfl (by decide) h13 (fun c14 => ?_) (fun c14 => ?_)
    · replace hT := hTt c14
      refine g_iconst (npc := 43) dX10_isRecurrent_42 rfl ?_
      exact g_iret dX10_isRecurrent_43 rfl (by decide) (by decide) ⟨_, rfl, hT⟩
    · replace hT := hTf c14
      refine g_aload_n (npc := 25) dX10_isRecurrent_24 rfl rfl rfl ?_
      refine gf_Cg_44 (npc := 28) dX10_isRecurrent_25 rfl rfl ?_
      refine g_aload_n (npc := 29) dX10_isRecurrent_28 rfl rfl rfl ?_
      refine gf_Cg_80 (npc := 32) dX10_isRecurrent_29 rfl rfl ?_
      obtain ⟨Q15, h16, hT⟩ := hT
      refine iv_Cg_216 (npc := 35) dX10_isRecurrent_32 rfl rfl (Nat.le_of_ble_eq_true rfl) (by decide) (by decide) h16 (fun r18 s17 e19 => ?_)
      replace hT := hT r18 s17 e19
      obtain ⟨h20, hTt, hTf⟩ := hT
      refine g_if_eq (npc := 38) (tgt := 42) dX10_isRecurrent_35 rfl (by decide) h20 (fun c21 => ?_) (fun c21 => ?_)
      · replace hT := hTt c21
        refine g_iconst (npc := 43) dX10_isRecurrent_42 rfl ?_
        exact g_iret dX10_isRecurrent_43 rfl (by decide) (by decide) ⟨_, rfl, hT⟩
      · replace hT := hTf c21
        refine g_iconst (npc := 39) dX10_isRecurrent_38 rfl ?_
        refine g_goto (npc := 43) dX10_isRecurrent_39 (by decide) ?_
        exact g_iret dX10_isRecurrent_43 rfl (by decide) (by decide) ⟨_, rfl, hT⟩
set_option maxRecDepth 20000 in
theorem e_Cg_kind {n : Nat} {s : Sto} {Q : Int → Sto → Prop} (hT : ∃ Q1 : Int → Sto → Prop, K_Fi_isStable n 187 s Q1 ∧ ∀ r4 s3, Q1 r4 s3 → ∃ J7 : Int → Prop, (∀ v6, J7 v6 → ∃ Q10 : Int → Sto → Prop, K_Cg_isRecurrent n s3 Q10 ∧ ∀ r13 s12, Q10 r13 s12 → ∃ J17 : Int → Prop, (∀ v16, J17 v16 → ∃ Q20 : Int → Sto → Prop, K_Gr_isConnected n s12 Q20 ∧ ∀ r23 s22, Q20 r23 s22 → (-2147483648 ≤ r23 ∧ r23 < 2147483648) ∧ ((r23 = 0) → Q v16 s22) ∧ ((¬ r23 = 0) → ∃ Q27 : Int → Sto → Prop, K_Bu_allBurnBySecondRule n 187 s22 Q27 ∧ ∀ r30 s29, Q27 r30 s29 → (-2147483648 ≤ r30 ∧ r30 < 2147483648) ∧ ((r30 = 0) → Q v16 s29) ∧ ((¬ r30 = 0) → Q (v16 + 4) s29))) ∧ (-2147483648 ≤ r13 ∧ r13 < 2147483648) ∧ ((r13 = 0) → J17 v6) ∧ ((¬ r13 = 0) → J17 (v6 + 2))) ∧ (-2147483648 ≤ r4 ∧ r4 < 2147483648) ∧ ((r4 = 0) → J7 0) ∧ ((¬ r4 = 0) → J7 1)) : K_Cg_kind n s Q := by
  refine Sp.body (by decide +kernel) (Nat.le_of_ble_eq_true rfl) ?_
  show Go (SL n) M_Cg_kind (fI Q) 0 0 0 [(0, .ref 0)] [] s
  refine g_aload_n (npc := 1) dX10_kind_0 rfl rfl rfl ?_
  refine gf_Cg_53 (npc := 4) dX10_kind_1 rfl rfl ?_
  refine g_aload_n (npc := 5) dX10_kind_4 rfl rfl rfl ?_
  refine gf_Cg_80 (npc := 8) dX10_kind_5 rfl rfl ?_
  obtain ⟨Q1, h2, hT⟩ := hT
  refine iv_Cg_206 (npc := 11) dX10_kind_8 rfl rfl (Nat.le_of_ble_eq_true rfl) (by decide) (by decide) h2 (fun r4 s3 e5 => ?_)
  replace hT := hT r4 s3 e5
  obtain ⟨J7, hT⟩ := hT
  obtain ⟨hj37, hT⟩ := hT
  have K38 : ∀ (v6 : Int), J7 v6 → Go (SL n) M_Cg_kind (fI Q) 0 0 19 [(0, .ref 0)] [iV v6] s3 := by
    intro v6 q39
    replace hT := hj37 v6 q39
    refine g_istore_n (npc := 20) (l' := [(0, .ref 0), (1, iV v6)]) dX10_kind_19 rfl rfl (by decide) rfl ?_
    refine g_aload_n (npc := 21) dX10_kind_20 rfl rfl rfl ?_
    obtain ⟨Q10, h11, hT⟩ := hT
    refine iv_Cg_210 (npc := 24) dX10_kind_21 rfl rfl (Nat.le_of_ble_eq_true rfl) (by decide) (by decide) h11 (fun r13 s12 e14 => ?_)
    replace hT := hT r13 s12 e14
    obtain ⟨J17, hT⟩ := hT
    obtain ⟨hj34, hT⟩ := hT
    have K35 : ∀ (v16 : Int), J17 v16 → Go (SL n) M_Cg_kind (fI Q) 0 0 30 [(0, .ref 0), (1, iV v16)] [] s12 := by
      intro v16 q36
      replace hT := hj34 v16 q36
      refine g_aload_n (npc := 31) dX10_kind_30 rfl rfl rfl ?_
      refine gf_Cg_12 (npc := 34) dX10_kind_31 rfl rfl ?_
      obtain ⟨Q20, h21, hT⟩ := hT
      refine iv_Cg_147 (npc := 37) dX10_kind_34 rfl rfl (Nat.le_of_ble_eq_true rfl) (by decide) (by decide) h21 (fun r23 s22 e24 => ?_)
      replace hT := hT r23 s22 e24
      obtain ⟨h25, hTt, hTf⟩ := hT
      refine g_if_eq (npc := 40) (tgt := 57) dX10_kind_37 rfl (by decide) h25 (fun c26 => ?_) (fun c26 => ?_)
      · replace hT := hTt c26
        refine g_iload_n (npc := 58) dX10_kind_57 rfl rfl rfl ?_
        exact g_iret dX10_kind_58 rfl rfl (by decide) ⟨_, rfl, hT⟩
      · replace hT := hTf c26
        refine g_aload_n (npc := 41) dX10_kind_40 rfl rfl rfl ?_
        refine gf_Cg_44 (npc := 44) dX10_kind_41 rfl rfl ?_
        refine g_aload_n (npc := 45) dX10_kind_44 rfl rfl rfl ?_
        refine gf_Cg_80 (npc := 48) dX10_kind_45 rfl rfl ?_
        obtain ⟨Q27, h28, hT⟩ := hT
        refine iv_Cg_213 (npc := 51) dX10_kind_48 rfl rfl (Nat.le_of_ble_eq_true rfl) (by decide) (by decide) h28 (fun r30 s29 e31 => ?_)
        replace hT := hT r30 s29 e31
        obtain ⟨h32, hTt, hTf⟩ := hT
        refine g_if_eq (npc := 54) (tgt := 57) dX10_kind_51 rfl (by decide) h32 (fun c33 => ?_) (fun c33 => ?_)
        · replace hT := hTt c33
          refine g_iload_n (npc := 58) dX10_kind_57 rfl rfl rfl ?_
          exact g_iret dX10_kind_58 rfl rfl (by decide) ⟨_, rfl, hT⟩
        · replace hT := hTf c33
          refine g_iinc (npc := 57) (y := (v16 + 4)) (l' := [(0, .ref 0), (1, iV (v16 + 4))]) dX10_kind_54 rfl (by decide) rfl (by omega) rfl ?_
          refine g_iload_n (npc := 58) dX10_kind_57 rfl rfl rfl ?_
          exact g_iret dX10_kind_58 rfl rfl (by decide) ⟨_, rfl, hT⟩
    obtain ⟨h18, hTt, hTf⟩ := hT
    refine g_if_eq (npc := 27) (tgt := 30) dX10_kind_24 rfl (by decide) h18 (fun c19 => ?_) (fun c19 => ?_)
    · replace hT := hTt c19
      exact K35 _ hT
    · replace hT := hTf c19
      refine g_iinc (npc := 30) (y := (v6 + 2)) (l' := [(0, .ref 0), (1, iV (v6 + 2))]) dX10_kind_27 rfl (by decide) rfl (by omega) rfl ?_
      exact K35 _ hT
  obtain ⟨h8, hTt, hTf⟩ := hT
  refine g_if_eq (npc := 14) (tgt := 18) dX10_kind_11 rfl (by decide) h8 (fun c9 => ?_) (fun c9 => ?_)
  · replace hT := hTt c9
    refine g_iconst (npc := 19) dX10_kind_18 rfl ?_
    exact K38 _ hT
  · replace hT := hTf c9
    refine g_iconst (npc := 15) dX10_kind_14 rfl ?_
    refine g_goto (npc := 19) dX10_kind_15 (by decide) ?_
    exact K38 _ hT
set_option maxRecDepth 20000 in
theorem e_Cg_undo {n : Nat} {s : Sto} {Q : Int → Sto → Prop} (hT : (-2147483648 ≤ (s 17 0) ∧ (s 17 0) < 2147483648) ∧ ((¬ (s 17 0) = 0) → ∃ Q3 : Sto → Prop, K_Hi_takeBack n 187 s Q3 ∧ ∀ s5, Q3 s5 → Q (s5 17 0) s5) ∧ (((s 17 0) = 0) → Q (-10007) s)) : K_Cg_undo n s Q := by
  refine Sp.body (by decide +kernel) (Nat.le_of_ble_eq_true rfl) ?_
  show Go (SL n) M_Cg_undo (fI Q) 0 0 0 [(0, .ref 0)] [] s
  refine g_aload_n (npc := 1) dX10_undo_0 rfl rfl rfl ?_
  refine gf_Cg_28 (npc := 4) dX10_undo_1 rfl rfl ?_
  refine gf_Cg_155 (npc := 7) dX10_undo_4 rfl rfl ?_
  obtain ⟨h1, hTt, hTf⟩ := hT
  refine g_if_ne (npc := 10) (tgt := 14) dX10_undo_7 rfl (by decide) h1 (fun c2 => ?_) (fun c2 => ?_)
  · replace hT := hTt c2
    refine g_aload_n (npc := 15) dX10_undo_14 rfl rfl rfl ?_
    refine gf_Cg_28 (npc := 18) dX10_undo_15 rfl rfl ?_
    refine g_aload_n (npc := 19) dX10_undo_18 rfl rfl rfl ?_
    refine gf_Cg_80 (npc := 22) dX10_undo_19 rfl rfl ?_
    obtain ⟨Q3, h4, hT⟩ := hT
    refine iv_Cg_225 (npc := 25) dX10_undo_22 rfl rfl (Nat.le_of_ble_eq_true rfl) (by decide) (by decide) h4 (fun s5 e7 => ?_)
    replace hT := hT s5 e7
    refine g_aload_n (npc := 26) dX10_undo_25 rfl rfl rfl ?_
    refine gf_Cg_28 (npc := 29) dX10_undo_26 rfl rfl ?_
    refine gf_Cg_155 (npc := 32) dX10_undo_29 rfl rfl ?_
    exact g_iret dX10_undo_32 rfl rfl (by decide) ⟨_, rfl, hT⟩
  · replace hT := hTf (Decidable.not_not.mp c2)
    refine g_sipush (npc := 13) (x := (-10007)) dX10_undo_10 rfl (by decide) ?_
    exact g_iret dX10_undo_13 rfl rfl (by decide) ⟨_, rfl, hT⟩
set_option maxRecDepth 20000 in
theorem e_Cg_treeCount {n : Nat} {s : Sto} {Q : Int → Sto → Prop} (hT : ∃ Q1 : Int → Sto → Prop, K_Tr_count n 0 0 s Q1 ∧ ∀ r4 s3, Q1 r4 s3 → Q r4 s3) : K_Cg_treeCount n s Q := by
  refine Sp.body (by decide +kernel) (Nat.le_of_ble_eq_true rfl) ?_
  show Go (SL n) M_Cg_treeCount (fJ Q) 0 0 0 [(0, .ref 0)] [] s
  refine g_aload_n (npc := 1) dX10_treeCount_0 rfl rfl rfl ?_
  refine gf_Cg_69 (npc := 4) dX10_treeCount_1 rfl rfl ?_
  refine g_iconst (npc := 5) dX10_treeCount_4 rfl ?_
  refine g_iconst (npc := 6) dX10_treeCount_5 rfl ?_
  obtain ⟨Q1, h2, hT⟩ := hT
  refine iv_Cg_241 (npc := 9) dX10_treeCount_6 rfl rfl (Nat.le_of_ble_eq_true rfl) (by decide) (by decide) h2 (fun r4 s3 e5 => ?_)
  replace hT := hT r4 s3 e5
  exact g_lret dX10_treeCount_9 rfl (by decide) ⟨_, rfl, hT⟩
set_option maxRecDepth 20000 in
theorem e_Cg_stabilize {n : Nat} {s : Sto} {Q : Int → Sto → Prop} (hT : ∃ Q1 : Int → Sto → Prop, K_Gr_isConnected n s Q1 ∧ ∀ r4 s3, Q1 r4 s3 → (-2147483648 ≤ r4 ∧ r4 < 2147483648) ∧ ((¬ r4 = 0) → ∃ Q8 : Sto → Prop, K_Hi_record n 187 s3 Q8 ∧ ∀ s10, Q8 s10 → ∃ Q13 : Int → Sto → Prop, K_Fi_settle n 187 s10 Q13 ∧ ∀ r16 s15, Q13 r16 s15 → Q r16 s15) ∧ ((r4 = 0) → Q (-10003) s3)) : K_Cg_stabilize n s Q := by
  refine Sp.body (by decide +kernel) (Nat.le_of_ble_eq_true rfl) ?_
  show Go (SL n) M_Cg_stabilize (fI Q) 0 0 0 [(0, .ref 0)] [] s
  refine g_aload_n (npc := 1) dX10_stabilize_0 rfl rfl rfl ?_
  refine gf_Cg_12 (npc := 4) dX10_stabilize_1 rfl rfl ?_
  obtain ⟨Q1, h2, hT⟩ := hT
  refine iv_Cg_147 (npc := 7) dX10_stabilize_4 rfl rfl (Nat.le_of_ble_eq_true rfl) (by decide) (by decide) h2 (fun r4 s3 e5 => ?_)
  replace hT := hT r4 s3 e5
  obtain ⟨h6, hTt, hTf⟩ := hT
  refine g_if_ne (npc := 10) (tgt := 14) dX10_stabilize_7 rfl (by decide) h6 (fun c7 => ?_) (fun c7 => ?_)
  · replace hT := hTt c7
    refine g_aload_n (npc := 15) dX10_stabilize_14 rfl rfl rfl ?_
    refine gf_Cg_28 (npc := 18) dX10_stabilize_15 rfl rfl ?_
    refine g_aload_n (npc := 19) dX10_stabilize_18 rfl rfl rfl ?_
    refine gf_Cg_80 (npc := 22) dX10_stabilize_19 rfl rfl ?_
    obtain ⟨Q8, h9, hT⟩ := hT
    refine iv_Cg_174 (npc := 25) dX10_stabilize_22 rfl rfl (Nat.le_of_ble_eq_true rfl) (by decide) (by decide) h9 (fun s10 e12 => ?_)
    replace hT := hT s10 e12
    refine g_aload_n (npc := 26) dX10_stabilize_25 rfl rfl rfl ?_
    refine gf_Cg_53 (npc := 29) dX10_stabilize_26 rfl rfl ?_
    refine g_aload_n (npc := 30) dX10_stabilize_29 rfl rfl rfl ?_
    refine gf_Cg_80 (npc := 33) dX10_stabilize_30 rfl rfl ?_
    obtain ⟨Q13, h14, hT⟩ := hT
    refine iv_Cg_186 (npc := 36) dX10_stabilize_33 rfl rfl (Nat.le_of_ble_eq_true rfl) (by decide) (by decide) h14 (fun r16 s15 e17 => ?_)
    replace hT := hT r16 s15 e17
    exact g_iret dX10_stabilize_36 rfl rfl (by decide) ⟨_, rfl, hT⟩
  · replace hT := hTf (Decidable.not_not.mp c7)
    refine g_sipush (npc := 13) (x := (-10003)) dX10_stabilize_10 rfl (by decide) ?_
    exact g_iret dX10_stabilize_13 rfl rfl (by decide) ⟨_, rfl, hT⟩
set_option maxRecDepth 20000 in
theorem e_Cg_reduce {n : Nat} {s : Sto} {Q : Int → Sto → Prop} (hT : ∃ Q1 : Int → Sto → Prop, K_Gr_isConnected n s Q1 ∧ ∀ r4 s3, Q1 r4 s3 → (-2147483648 ≤ r4 ∧ r4 < 2147483648) ∧ ((¬ r4 = 0) → ∃ Q8 : Sto → Prop, K_Hi_record n 187 s3 Q8 ∧ ∀ s10, Q8 s10 → ∃ Q13 : Int → Sto → Prop, K_Fi_settle n 187 s10 Q13 ∧ ∀ r16 s15, Q13 r16 s15 → ∃ Q18 : Int → Sto → Prop, K_Fi_fireSets n 187 s15 Q18 ∧ ∀ r21 s20, Q18 r21 s20 → Q r21 s20) ∧ ((r4 = 0) → Q (-10003) s3)) : K_Cg_reduce n s Q := by
  refine Sp.body (by decide +kernel) (Nat.le_of_ble_eq_true rfl) ?_
  show Go (SL n) M_Cg_reduce (fI Q) 0 0 0 [(0, .ref 0)] [] s
  refine g_aload_n (npc := 1) dX10_reduce_0 rfl rfl rfl ?_
  refine gf_Cg_12 (npc := 4) dX10_reduce_1 rfl rfl ?_
  obtain ⟨Q1, h2, hT⟩ := hT
  refine iv_Cg_147 (npc := 7) dX10_reduce_4 rfl rfl (Nat.le_of_ble_eq_true rfl) (by decide) (by decide) h2 (fun r4 s3 e5 => ?_)
  replace hT := hT r4 s3 e5
  obtain ⟨h6, hTt, hTf⟩ := hT
  refine g_if_ne (npc := 10) (tgt := 14) dX10_reduce_7 rfl (by decide) h6 (fun c7 => ?_) (fun c7 => ?_)
  · replace hT := hTt c7
    refine g_aload_n (npc := 15) dX10_reduce_14 rfl rfl rfl ?_
    refine gf_Cg_28 (npc := 18) dX10_reduce_15 rfl rfl ?_
    refine g_aload_n (npc := 19) dX10_reduce_18 rfl rfl rfl ?_
    refine gf_Cg_80 (npc := 22) dX10_reduce_19 rfl rfl ?_
    obtain ⟨Q8, h9, hT⟩ := hT
    refine iv_Cg_174 (npc := 25) dX10_reduce_22 rfl rfl (Nat.le_of_ble_eq_true rfl) (by decide) (by decide) h9 (fun s10 e12 => ?_)
    replace hT := hT s10 e12
    refine g_aload_n (npc := 26) dX10_reduce_25 rfl rfl rfl ?_
    refine gf_Cg_53 (npc := 29) dX10_reduce_26 rfl rfl ?_
    refine g_aload_n (npc := 30) dX10_reduce_29 rfl rfl rfl ?_
    refine gf_Cg_80 (npc := 33) dX10_reduce_30 rfl rfl ?_
    obtain ⟨Q13, h14, hT⟩ := hT
    refine iv_Cg_186 (npc := 36) dX10_reduce_33 rfl rfl (Nat.le_of_ble_eq_true rfl) (by decide) (by decide) h14 (fun r16 s15 e17 => ?_)
    replace hT := hT r16 s15 e17
    refine g_pop (npc := 37) dX10_reduce_36 rfl rfl ?_
    refine g_aload_n (npc := 38) dX10_reduce_37 rfl rfl rfl ?_
    refine gf_Cg_53 (npc := 41) dX10_reduce_38 rfl rfl ?_
    refine g_aload_n (npc := 42) dX10_reduce_41 rfl rfl rfl ?_
    refine gf_Cg_80 (npc := 45) dX10_reduce_42 rfl rfl ?_
    obtain ⟨Q18, h19, hT⟩ := hT
    refine iv_Cg_196 (npc := 48) dX10_reduce_45 rfl rfl (Nat.le_of_ble_eq_true rfl) (by decide) (by decide) h19 (fun r21 s20 e22 => ?_)
    replace hT := hT r21 s20 e22
    exact g_iret dX10_reduce_48 rfl rfl (by decide) ⟨_, rfl, hT⟩
  · replace hT := hTf (Decidable.not_not.mp c7)
    refine g_sipush (npc := 13) (x := (-10003)) dX10_reduce_10 rfl (by decide) ?_
    exact g_iret dX10_reduce_13 rfl rfl (by decide) ⟨_, rfl, hT⟩
abbrev H_Cg_isEqual_2 (n : Nat) (Q : Int → Sto → Prop) (k0 : Nat) (k1 : Nat) (x2 : Int) (s : Sto) : Prop := Go (SL n) M_Cg_isEqual (fI Q) 0 0 2 [(0, .ref k0), (1, .ref k1), (2, iV x2)] [] s
set_option maxRecDepth 20000 in
theorem b_Cg_isEqual_2 {n : Nat} {Q : Int → Sto → Prop} {k0 : Nat} {k1 : Nat} {x2 : Int} (hk0 : ar (SL n) k0 1 8) (hk1 : ar (SL n) k1 1 8) {s : Sto} (hT : (-2147483648 ≤ x2 ∧ x2 < 2147483648) ∧ ((8 ≤ x2) → Q 1 s) ∧ ((x2 < 8) → (-2147483648 ≤ x2 ∧ x2 < 2147483648) ∧ ((8 ≤ x2) → Q 1 s) ∧ ((x2 < 8) → (0 ≤ x2 ∧ x2 < 8) ∧ (0 ≤ x2 ∧ x2 < 8) ∧ ((-2147483648 ≤ (s k0 (Int.toNat x2)) ∧ (s k0 (Int.toNat x2)) < 2147483648) ∧ -2147483648 ≤ (s k1 (Int.toNat x2)) ∧ (s k1 (Int.toNat x2)) < 2147483648) ∧ (((s k0 (Int.toNat x2)) = (s k1 (Int.toNat x2))) → H_Cg_isEqual_2 n Q k0 k1 (x2 + 1) s) ∧ ((¬ (s k0 (Int.toNat x2)) = (s k1 (Int.toNat x2))) → Q 0 s)))) : H_Cg_isEqual_2 n Q k0 k1 x2 s := by
  refine g_iload_n (npc := 3) dX10_isEqual_2 rfl rfl rfl ?_
  refine g_aload_n (npc := 4) dX10_isEqual_3 rfl rfl rfl ?_
  refine g_alen (npc := 5) dX10_isEqual_4 rfl hk0 (by decide) ?_
  obtain ⟨h1, hTt, hTf⟩ := hT
  refine g_icmp_ge (npc := 8) (tgt := 31) dX10_isEqual_5 rfl (by decide) ⟨h1, by decide, by decide⟩ (fun c2 => ?_) (fun c2 => ?_)
  · replace hT := hTt c2
    refine g_iconst (npc := 32) dX10_isEqual_31 rfl ?_
    exact g_iret dX10_isEqual_32 rfl (by decide) (by decide) ⟨_, rfl, hT⟩
  · replace hT := hTf (Int.not_le.mp c2)
    refine g_iload_n (npc := 9) dX10_isEqual_8 rfl rfl rfl ?_
    refine g_aload_n (npc := 10) dX10_isEqual_9 rfl rfl rfl ?_
    refine g_alen (npc := 11) dX10_isEqual_10 rfl hk1 (by decide) ?_
    obtain ⟨h3, hTt, hTf⟩ := hT
    refine g_icmp_ge (npc := 14) (tgt := 31) dX10_isEqual_11 rfl (by decide) ⟨h3, by decide, by decide⟩ (fun c4 => ?_) (fun c4 => ?_)
    · replace hT := hTt c4
      refine g_iconst (npc := 32) dX10_isEqual_31 rfl ?_
      exact g_iret dX10_isEqual_32 rfl (by decide) (by decide) ⟨_, rfl, hT⟩
    · replace hT := hTf (Int.not_le.mp c4)
      refine g_aload_n (npc := 15) dX10_isEqual_14 rfl rfl rfl ?_
      refine g_iload_n (npc := 16) dX10_isEqual_15 rfl rfl rfl ?_
      obtain ⟨h5, hT⟩ := hT
      refine g_iald (npc := 17) dX10_isEqual_16 rfl hk0 h5 ?_
      refine g_aload_n (npc := 18) dX10_isEqual_17 rfl rfl rfl ?_
      refine g_iload_n (npc := 19) dX10_isEqual_18 rfl rfl rfl ?_
      obtain ⟨h6, hT⟩ := hT
      refine g_iald (npc := 20) dX10_isEqual_19 rfl hk1 h6 ?_
      obtain ⟨h7, hTt, hTf⟩ := hT
      refine g_icmp_eq (npc := 23) (tgt := 25) dX10_isEqual_20 rfl (by decide) h7 (fun c8 => ?_) (fun c8 => ?_)
      · replace hT := hTt c8
        refine g_iinc (npc := 28) (y := (x2 + 1)) (l' := [(0, .ref k0), (1, .ref k1), (2, iV (x2 + 1))]) dX10_isEqual_25 rfl (by decide) rfl (by omega) rfl ?_
        refine g_goto (npc := 2) dX10_isEqual_28 (by decide) ?_
        exact hT
      · replace hT := hTf c8
        refine g_iconst (npc := 24) dX10_isEqual_23 rfl ?_
        exact g_iret dX10_isEqual_24 rfl (by decide) (by decide) ⟨_, rfl, hT⟩
set_option maxRecDepth 20000 in
theorem e_Cg_isEqual {n : Nat} {k0 : Nat} {k1 : Nat} (hk0 : ar (SL n) k0 1 8) (hk1 : ar (SL n) k1 1 8) {s : Sto} {Q : Int → Sto → Prop} (hT : H_Cg_isEqual_2 n Q k0 k1 0 s) : K_Cg_isEqual n k0 k1 s Q := by
  refine Sp.body (by decide +kernel) (Nat.le_of_ble_eq_true rfl) ?_
  show Go (SL n) M_Cg_isEqual (fI Q) 0 0 0 [(0, .ref k0), (1, .ref k1)] [] s
  refine g_iconst (npc := 1) dX10_isEqual_0 rfl ?_
  refine g_istore_n (npc := 2) (l' := [(0, .ref k0), (1, .ref k1), (2, iV 0)]) dX10_isEqual_1 rfl rfl (by decide) rfl ?_
  exact hT
set_option maxRecDepth 20000 in
theorem e_Cg_makeRecurrent {n : Nat} {s : Sto} {Q : Int → Sto → Prop} (hT : ∃ Q1 : Int → Sto → Prop, K_Gr_isConnected n s Q1 ∧ ∀ r4 s3, Q1 r4 s3 → (-2147483648 ≤ r4 ∧ r4 < 2147483648) ∧ ((¬ r4 = 0) → ∃ Q8 : Sto → Prop, K_Hi_record n 187 s3 Q8 ∧ ∀ s10, Q8 s10 → ∃ Q13 : Sto → Prop, K_Cg_copyChips n 187 188 s10 Q13 ∧ ∀ s15, Q13 s15 → ∃ Q18 : Sto → Prop, K_Fi_toRecurrent n 187 s15 Q18 ∧ ∀ s20, Q18 s20 → ∃ Q23 : Int → Sto → Prop, K_Cg_isEqual n 187 188 s20 Q23 ∧ ∀ r26 s25, Q23 r26 s25 → (-2147483648 ≤ r26 ∧ r26 < 2147483648) ∧ ((r26 = 0) → Q 1 s25) ∧ ((¬ r26 = 0) → Q 0 s25)) ∧ ((r4 = 0) → Q (-10003) s3)) : K_Cg_makeRecurrent n s Q := by
  refine Sp.body (by decide +kernel) (Nat.le_of_ble_eq_true rfl) ?_
  show Go (SL n) M_Cg_makeRecurrent (fI Q) 0 0 0 [(0, .ref 0)] [] s
  refine g_aload_n (npc := 1) dX10_makeRecurrent_0 rfl rfl rfl ?_
  refine gf_Cg_12 (npc := 4) dX10_makeRecurrent_1 rfl rfl ?_
  obtain ⟨Q1, h2, hT⟩ := hT
  refine iv_Cg_147 (npc := 7) dX10_makeRecurrent_4 rfl rfl (Nat.le_of_ble_eq_true rfl) (by decide) (by decide) h2 (fun r4 s3 e5 => ?_)
  replace hT := hT r4 s3 e5
  obtain ⟨h6, hTt, hTf⟩ := hT
  refine g_if_ne (npc := 10) (tgt := 14) dX10_makeRecurrent_7 rfl (by decide) h6 (fun c7 => ?_) (fun c7 => ?_)
  · replace hT := hTt c7
    refine g_aload_n (npc := 15) dX10_makeRecurrent_14 rfl rfl rfl ?_
    refine gf_Cg_28 (npc := 18) dX10_makeRecurrent_15 rfl rfl ?_
    refine g_aload_n (npc := 19) dX10_makeRecurrent_18 rfl rfl rfl ?_
    refine gf_Cg_80 (npc := 22) dX10_makeRecurrent_19 rfl rfl ?_
    obtain ⟨Q8, h9, hT⟩ := hT
    refine iv_Cg_174 (npc := 25) dX10_makeRecurrent_22 rfl rfl (Nat.le_of_ble_eq_true rfl) (by decide) (by decide) h9 (fun s10 e12 => ?_)
    replace hT := hT s10 e12
    refine g_aload_n (npc := 26) dX10_makeRecurrent_25 rfl rfl rfl ?_
    refine gf_Cg_80 (npc := 29) dX10_makeRecurrent_26 rfl rfl ?_
    refine g_aload_n (npc := 30) dX10_makeRecurrent_29 rfl rfl rfl ?_
    refine gf_Cg_84 (npc := 33) dX10_makeRecurrent_30 rfl rfl ?_
    obtain ⟨Q13, h14, hT⟩ := hT
    refine iv_Cg_189 (npc := 36) dX10_makeRecurrent_33 rfl rfl (Nat.le_of_ble_eq_true rfl) (by decide) (by decide) h14 (fun s15 e17 => ?_)
    replace hT := hT s15 e17
    refine g_aload_n (npc := 37) dX10_makeRecurrent_36 rfl rfl rfl ?_
    refine gf_Cg_53 (npc := 40) dX10_makeRecurrent_37 rfl rfl ?_
    refine g_aload_n (npc := 41) dX10_makeRecurrent_40 rfl rfl rfl ?_
    refine gf_Cg_80 (npc := 44) dX10_makeRecurrent_41 rfl rfl ?_
    obtain ⟨Q18, h19, hT⟩ := hT
    refine iv_Cg_199 (npc := 47) dX10_makeRecurrent_44 rfl rfl (Nat.le_of_ble_eq_true rfl) (by decide) (by decide) h19 (fun s20 e22 => ?_)
    replace hT := hT s20 e22
    refine g_aload_n (npc := 48) dX10_makeRecurrent_47 rfl rfl rfl ?_
    refine gf_Cg_80 (npc := 51) dX10_makeRecurrent_48 rfl rfl ?_
    refine g_aload_n (npc := 52) dX10_makeRecurrent_51 rfl rfl rfl ?_
    refine gf_Cg_84 (npc := 55) dX10_makeRecurrent_52 rfl rfl ?_
    obtain ⟨Q23, h24, hT⟩ := hT
    refine iv_Cg_202 (npc := 58) dX10_makeRecurrent_55 rfl rfl (Nat.le_of_ble_eq_true rfl) (by decide) (by decide) h24 (fun r26 s25 e27 => ?_)
    replace hT := hT r26 s25 e27
    obtain ⟨h28, hTt, hTf⟩ := hT
    refine g_if_eq (npc := 61) (tgt := 65) dX10_makeRecurrent_58 rfl (by decide) h28 (fun c29 => ?_) (fun c29 => ?_)
    · replace hT := hTt c29
      refine g_iconst (npc := 66) dX10_makeRecurrent_65 rfl ?_
      exact g_iret dX10_makeRecurrent_66 rfl rfl (by decide) ⟨_, rfl, hT⟩
    · replace hT := hTf c29
      refine g_iconst (npc := 62) dX10_makeRecurrent_61 rfl ?_
      refine g_goto (npc := 66) dX10_makeRecurrent_62 (by decide) ?_
      exact g_iret dX10_makeRecurrent_66 rfl rfl (by decide) ⟨_, rfl, hT⟩
  · replace hT := hTf (Decidable.not_not.mp c7)
    refine g_sipush (npc := 13) (x := (-10003)) dX10_makeRecurrent_10 rfl (by decide) ?_
    exact g_iret dX10_makeRecurrent_13 rfl rfl (by decide) ⟨_, rfl, hT⟩
set_option maxRecDepth 20000 in
theorem e_Cg_order {n : Nat} {s : Sto} {Q : Int → Sto → Prop} (hT : ∃ Q1 : Int → Sto → Prop, K_Gr_isConnected n s Q1 ∧ ∀ r4 s3, Q1 r4 s3 → (-2147483648 ≤ r4 ∧ r4 < 2147483648) ∧ ((¬ r4 = 0) → ∃ Q8 : Int → Sto → Prop, K_Ma_orderOf n 187 s3 Q8 ∧ ∀ r11 s10, Q8 r11 s10 → Q r11 s10) ∧ ((r4 = 0) → Q (-10003) s3)) : K_Cg_order n s Q := by
  refine Sp.body (by decide +kernel) (Nat.le_of_ble_eq_true rfl) ?_
  show Go (SL n) M_Cg_order (fI Q) 0 0 0 [(0, .ref 0)] [] s
  refine g_aload_n (npc := 1) dX10_order_0 rfl rfl rfl ?_
  refine gf_Cg_12 (npc := 4) dX10_order_1 rfl rfl ?_
  obtain ⟨Q1, h2, hT⟩ := hT
  refine iv_Cg_147 (npc := 7) dX10_order_4 rfl rfl (Nat.le_of_ble_eq_true rfl) (by decide) (by decide) h2 (fun r4 s3 e5 => ?_)
  replace hT := hT r4 s3 e5
  obtain ⟨h6, hTt, hTf⟩ := hT
  refine g_if_ne (npc := 10) (tgt := 14) dX10_order_7 rfl (by decide) h6 (fun c7 => ?_) (fun c7 => ?_)
  · replace hT := hTt c7
    refine g_aload_n (npc := 15) dX10_order_14 rfl rfl rfl ?_
    refine gf_Cg_60 (npc := 18) dX10_order_15 rfl rfl ?_
    refine g_aload_n (npc := 19) dX10_order_18 rfl rfl rfl ?_
    refine gf_Cg_80 (npc := 22) dX10_order_19 rfl rfl ?_
    obtain ⟨Q8, h9, hT⟩ := hT
    refine iv_Cg_247 (npc := 25) dX10_order_22 rfl rfl (Nat.le_of_ble_eq_true rfl) (by decide) (by decide) h9 (fun r11 s10 e12 => ?_)
    replace hT := hT r11 s10 e12
    refine g_l2i (npc := 26) dX10_order_25 rfl ?_
    exact g_iret dX10_order_26 rfl rfl (by decide) ⟨_, rfl, hT⟩
  · replace hT := hTf (Decidable.not_not.mp c7)
    refine g_sipush (npc := 13) (x := (-10003)) dX10_order_10 rfl (by decide) ?_
    exact g_iret dX10_order_13 rfl rfl (by decide) ⟨_, rfl, hT⟩
set_option maxRecDepth 20000 in
theorem e_Cg_factor {n : Nat} {x1 : Int} {s : Sto} {Q : Int → Sto → Prop} (hT : (-2147483648 ≤ x1 ∧ x1 < 2147483648) ∧ ((x1 < (-1)) → Q (-9223372036854775808) s) ∧ (((-1) ≤ x1) → ∃ Q3 : Int → Sto → Prop, K_Gr_isConnected n s Q3 ∧ ∀ r6 s5, Q3 r6 s5 → (-2147483648 ≤ r6 ∧ r6 < 2147483648) ∧ ((¬ r6 = 0) → ∃ Q10 : Sto → Prop, K_Ma_findFactors n s5 Q10 ∧ ∀ s12, Q10 s12 → (-2147483648 ≤ x1 ∧ x1 < 2147483648) ∧ ((¬ x1 = (-1)) → ((-2147483648 ≤ x1 ∧ x1 < 2147483648) ∧ -2147483648 ≤ (s12 42 1) ∧ (s12 42 1) < 2147483648) ∧ (((s12 42 1) ≤ x1) → Q (-9223372036854775808) s12) ∧ ((x1 < (s12 42 1)) → (0 ≤ x1 ∧ x1 < 8) ∧ Q (s12 43 (Int.toNat x1)) s12)) ∧ ((x1 = (-1)) → (-2147483648 ≤ (s12 42 1) ∧ (s12 42 1) < 2147483648) ∧ Q (s12 42 1) s12)) ∧ ((r6 = 0) → Q (-9223372036854775808) s5))) : K_Cg_factor n x1 s Q := by
  refine Sp.body (by decide +kernel) (Nat.le_of_ble_eq_true rfl) ?_
  show Go (SL n) M_Cg_factor (fJ Q) 0 0 0 [(0, .ref 0), (1, iV x1)] [] s
  refine g_iload_n (npc := 1) dX10_factor_0 rfl rfl rfl ?_
  refine g_iconst (npc := 2) dX10_factor_1 rfl ?_
  obtain ⟨h1, hTt, hTf⟩ := hT
  refine g_icmp_lt (npc := 5) (tgt := 15) dX10_factor_2 rfl (by decide) ⟨h1, by decide, by decide⟩ (fun c2 => ?_) (fun c2 => ?_)
  · replace hT := hTt c2
    refine g_ldc2 (npc := 18) (x := (-9223372036854775808)) dX10_factor_15 rfl tw_582 ?_
    exact g_lret dX10_factor_18 rfl (by decide) ⟨_, rfl, hT⟩
  · replace hT := hTf (Int.not_lt.mp c2)
    refine g_aload_n (npc := 6) dX10_factor_5 rfl rfl rfl ?_
    refine gf_Cg_12 (npc := 9) dX10_factor_6 rfl rfl ?_
    obtain ⟨Q3, h4, hT⟩ := hT
    refine iv_Cg_147 (npc := 12) dX10_factor_9 rfl rfl (Nat.le_of_ble_eq_true rfl) (by decide) (by decide) h4 (fun r6 s5 e7 => ?_)
    replace hT := hT r6 s5 e7
    obtain ⟨h8, hTt, hTf⟩ := hT
    refine g_if_ne (npc := 15) (tgt := 19) dX10_factor_12 rfl (by decide) h8 (fun c9 => ?_) (fun c9 => ?_)
    · replace hT := hTt c9
      refine g_aload_n (npc := 20) dX10_factor_19 rfl rfl rfl ?_
      refine gf_Cg_60 (npc := 23) dX10_factor_20 rfl rfl ?_
      obtain ⟨Q10, h11, hT⟩ := hT
      refine iv_Cg_253 (npc := 26) dX10_factor_23 rfl rfl (Nat.le_of_ble_eq_true rfl) (by decide) (by decide) h11 (fun s12 e14 => ?_)
      replace hT := hT s12 e14
      refine g_iload_n (npc := 27) dX10_factor_26 rfl rfl rfl ?_
      refine g_iconst (npc := 28) dX10_factor_27 rfl ?_
      obtain ⟨h15, hTt, hTf⟩ := hT
      refine g_icmp_ne (npc := 31) (tgt := 40) dX10_factor_28 rfl (by decide) ⟨h15, by decide, by decide⟩ (fun c16 => ?_) (fun c16 => ?_)
      · replace hT := hTt c16
        refine g_iload_n (npc := 41) dX10_factor_40 rfl rfl rfl ?_
        refine g_aload_n (npc := 42) dX10_factor_41 rfl rfl rfl ?_
        refine gf_Cg_60 (npc := 45) dX10_factor_42 rfl rfl ?_
        refine gf_Cg_256 (npc := 48) dX10_factor_45 rfl rfl ?_
        obtain ⟨h17, hTt, hTf⟩ := hT
        refine g_icmp_ge (npc := 51) (tgt := 63) dX10_factor_48 rfl (by decide) h17 (fun c18 => ?_) (fun c18 => ?_)
        · replace hT := hTt c18
          refine g_ldc2 (npc := 66) (x := (-9223372036854775808)) dX10_factor_63 rfl tw_582 ?_
          exact g_lret dX10_factor_66 rfl (by decide) ⟨_, rfl, hT⟩
        · replace hT := hTf (Int.not_le.mp c18)
          refine g_aload_n (npc := 52) dX10_factor_51 rfl rfl rfl ?_
          refine gf_Cg_60 (npc := 55) dX10_factor_52 rfl rfl ?_
          refine gf_Cg_259 (npc := 58) dX10_factor_55 rfl rfl ?_
          refine g_iload_n (npc := 59) dX10_factor_58 rfl rfl rfl ?_
          obtain ⟨h19, hT⟩ := hT
          refine g_lald (npc := 60) dX10_factor_59 rfl (arSL arSC_43) h19 ?_
          refine g_goto (npc := 66) dX10_factor_60 (by decide) ?_
          exact g_lret dX10_factor_66 rfl (by decide) ⟨_, rfl, hT⟩
      · replace hT := hTf (Decidable.not_not.mp c16)
        refine g_aload_n (npc := 32) dX10_factor_31 rfl rfl rfl ?_
        refine gf_Cg_60 (npc := 35) dX10_factor_32 rfl rfl ?_
        refine gf_Cg_256 (npc := 38) dX10_factor_35 rfl rfl ?_
        obtain ⟨h20, hT⟩ := hT
        refine g_i2l (npc := 39) dX10_factor_38 rfl h20 ?_
        exact g_lret dX10_factor_39 rfl (by decide) ⟨_, rfl, hT⟩
    · replace hT := hTf (Decidable.not_not.mp c9)
      refine g_ldc2 (npc := 18) (x := (-9223372036854775808)) dX10_factor_15 rfl tw_582 ?_
      exact g_lret dX10_factor_18 rfl (by decide) ⟨_, rfl, hT⟩
set_option maxRecDepth 20000 in
theorem e_Cg_levelCount {n : Nat} {x1 : Int} {s : Sto} {Q : Int → Sto → Prop} (hT : (-2147483648 ≤ x1 ∧ x1 < 2147483648) ∧ ((0 ≤ x1) → ∃ Q3 : Int → Sto → Prop, K_Gr_isConnected n s Q3 ∧ ∀ r6 s5, Q3 r6 s5 → (-2147483648 ≤ r6 ∧ r6 < 2147483648) ∧ ((¬ r6 = 0) → ∃ Q10 : Int → Sto → Prop, K_Le_countAt n x1 s5 Q10 ∧ ∀ r13 s12, Q10 r13 s12 → Q r13 s12) ∧ ((r6 = 0) → Q (-10003) s5)) ∧ ((x1 < 0) → Q (-10002) s)) : K_Cg_levelCount n x1 s Q := by
  refine Sp.body (by decide +kernel) (Nat.le_of_ble_eq_true rfl) ?_
  show Go (SL n) M_Cg_levelCount (fI Q) 0 0 0 [(0, .ref 0), (1, iV x1)] [] s
  refine g_iload_n (npc := 1) dX10_levelCount_0 rfl rfl rfl ?_
  obtain ⟨h1, hTt, hTf⟩ := hT
  refine g_if_ge (npc := 4) (tgt := 8) dX10_levelCount_1 rfl (by decide) h1 (fun c2 => ?_) (fun c2 => ?_)
  · replace hT := hTt c2
    refine g_aload_n (npc := 9) dX10_levelCount_8 rfl rfl rfl ?_
    refine gf_Cg_12 (npc := 12) dX10_levelCount_9 rfl rfl ?_
    obtain ⟨Q3, h4, hT⟩ := hT
    refine iv_Cg_147 (npc := 15) dX10_levelCount_12 rfl rfl (Nat.le_of_ble_eq_true rfl) (by decide) (by decide) h4 (fun r6 s5 e7 => ?_)
    replace hT := hT r6 s5 e7
    obtain ⟨h8, hTt, hTf⟩ := hT
    refine g_if_ne (npc := 18) (tgt := 22) dX10_levelCount_15 rfl (by decide) h8 (fun c9 => ?_) (fun c9 => ?_)
    · replace hT := hTt c9
      refine g_aload_n (npc := 23) dX10_levelCount_22 rfl rfl rfl ?_
      refine gf_Cg_76 (npc := 26) dX10_levelCount_23 rfl rfl ?_
      refine g_iload_n (npc := 27) dX10_levelCount_26 rfl rfl rfl ?_
      obtain ⟨Q10, h11, hT⟩ := hT
      refine iv_Cg_263 (npc := 30) dX10_levelCount_27 rfl rfl (Nat.le_of_ble_eq_true rfl) (by decide) (by decide) h11 (fun r13 s12 e14 => ?_)
      replace hT := hT r13 s12 e14
      refine g_l2i (npc := 31) dX10_levelCount_30 rfl ?_
      exact g_iret dX10_levelCount_31 rfl rfl (by decide) ⟨_, rfl, hT⟩
    · replace hT := hTf (Decidable.not_not.mp c9)
      refine g_sipush (npc := 21) (x := (-10003)) dX10_levelCount_18 rfl (by decide) ?_
      exact g_iret dX10_levelCount_21 rfl rfl (by decide) ⟨_, rfl, hT⟩
  · replace hT := hTf (Int.not_le.mp c2)
    refine g_sipush (npc := 7) (x := (-10002)) dX10_levelCount_4 rfl (by decide) ?_
    exact g_iret dX10_levelCount_7 rfl rfl (by decide) ⟨_, rfl, hT⟩
set_option maxRecDepth 20000 in
theorem e_Cg_tree {n : Nat} {s : Sto} {Q : Int → Sto → Prop} (hT : ∃ Q1 : Int → Sto → Prop, K_Cg_isRecurrent n s Q1 ∧ ∀ r4 s3, Q1 r4 s3 → (-2147483648 ≤ r4 ∧ r4 < 2147483648) ∧ ((¬ r4 = 0) → ∃ Q8 : Int → Sto → Prop, K_Tr_treeOf n 187 s3 Q8 ∧ ∀ r11 s10, Q8 r11 s10 → Q r11 s10) ∧ ((r4 = 0) → Q (-10004) s3)) : K_Cg_tree n s Q := by
  refine Sp.body (by decide +kernel) (Nat.le_of_ble_eq_true rfl) ?_
  show Go (SL n) M_Cg_tree (fI Q) 0 0 0 [(0, .ref 0)] [] s
  refine g_aload_n (npc := 1) dX10_tree_0 rfl rfl rfl ?_
  obtain ⟨Q1, h2, hT⟩ := hT
  refine iv_Cg_210 (npc := 4) dX10_tree_1 rfl rfl (Nat.le_of_ble_eq_true rfl) (by decide) (by decide) h2 (fun r4 s3 e5 => ?_)
  replace hT := hT r4 s3 e5
  obtain ⟨h6, hTt, hTf⟩ := hT
  refine g_if_ne (npc := 7) (tgt := 11) dX10_tree_4 rfl (by decide) h6 (fun c7 => ?_) (fun c7 => ?_)
  · replace hT := hTt c7
    refine g_aload_n (npc := 12) dX10_tree_11 rfl rfl rfl ?_
    refine gf_Cg_69 (npc := 15) dX10_tree_12 rfl rfl ?_
    refine g_aload_n (npc := 16) dX10_tree_15 rfl rfl rfl ?_
    refine gf_Cg_80 (npc := 19) dX10_tree_16 rfl rfl ?_
    obtain ⟨Q8, h9, hT⟩ := hT
    refine iv_Cg_267 (npc := 22) dX10_tree_19 rfl rfl (Nat.le_of_ble_eq_true rfl) (by decide) (by decide) h9 (fun r11 s10 e12 => ?_)
    replace hT := hT r11 s10 e12
    exact g_iret dX10_tree_22 rfl rfl (by decide) ⟨_, rfl, hT⟩
  · replace hT := hTf (Decidable.not_not.mp c7)
    refine g_sipush (npc := 10) (x := (-10004)) dX10_tree_7 rfl (by decide) ?_
    exact g_iret dX10_tree_10 rfl rfl (by decide) ⟨_, rfl, hT⟩
set_option maxRecDepth 20000 in
theorem e_Cg_firings {n : Nat} {x1 : Int} {s : Sto} {Q : Int → Sto → Prop} (hT : ∃ Q1 : Int → Sto → Prop, K_Gr_hasChipsAt n x1 s Q1 ∧ ∀ r4 s3, Q1 r4 s3 → (-2147483648 ≤ r4 ∧ r4 < 2147483648) ∧ ((¬ r4 = 0) → ∃ Q8 : Int → Sto → Prop, K_Gr_isConnected n s3 Q8 ∧ ∀ r11 s10, Q8 r11 s10 → (-2147483648 ≤ r11 ∧ r11 < 2147483648) ∧ ((¬ r11 = 0) → ∃ Q15 : Sto → Prop, K_Cg_copyChips n 187 188 s10 Q15 ∧ ∀ s17, Q15 s17 → ∃ Q20 : Int → Sto → Prop, K_Fi_settle n 188 s17 Q20 ∧ ∀ r23 s22, Q20 r23 s22 → (0 ≤ x1 ∧ x1 < 8) ∧ Q (s22 41 (Int.toNat x1)) s22) ∧ ((r11 = 0) → Q (-10003) s10)) ∧ ((r4 = 0) → Q (-10001) s3)) : K_Cg_firings n x1 s Q := by
  refine Sp.body (by decide +kernel) (Nat.le_of_ble_eq_true rfl) ?_
  show Go (SL n) M_Cg_firings (fI Q) 0 0 0 [(0, .ref 0), (1, iV x1)] [] s
  refine g_aload_n (npc := 1) dX10_firings_0 rfl rfl rfl ?_
  refine gf_Cg_12 (npc := 4) dX10_firings_1 rfl rfl ?_
  refine g_iload_n (npc := 5) dX10_firings_4 rfl rfl rfl ?_
  obtain ⟨Q1, h2, hT⟩ := hT
  refine iv_Cg_171 (npc := 8) dX10_firings_5 rfl rfl (Nat.le_of_ble_eq_true rfl) (by decide) (by decide) h2 (fun r4 s3 e5 => ?_)
  replace hT := hT r4 s3 e5
  obtain ⟨h6, hTt, hTf⟩ := hT
  refine g_if_ne (npc := 11) (tgt := 15) dX10_firings_8 rfl (by decide) h6 (fun c7 => ?_) (fun c7 => ?_)
  · replace hT := hTt c7
    refine g_aload_n (npc := 16) dX10_firings_15 rfl rfl rfl ?_
    refine gf_Cg_12 (npc := 19) dX10_firings_16 rfl rfl ?_
    obtain ⟨Q8, h9, hT⟩ := hT
    refine iv_Cg_147 (npc := 22) dX10_firings_19 rfl rfl (Nat.le_of_ble_eq_true rfl) (by decide) (by decide) h9 (fun r11 s10 e12 => ?_)
    replace hT := hT r11 s10 e12
    obtain ⟨h13, hTt, hTf⟩ := hT
    refine g_if_ne (npc := 25) (tgt := 29) dX10_firings_22 rfl (by decide) h13 (fun c14 => ?_) (fun c14 => ?_)
    · replace hT := hTt c14
      refine g_aload_n (npc := 30) dX10_firings_29 rfl rfl rfl ?_
      refine gf_Cg_80 (npc := 33) dX10_firings_30 rfl rfl ?_
      refine g_aload_n (npc := 34) dX10_firings_33 rfl rfl rfl ?_
      refine gf_Cg_84 (npc := 37) dX10_firings_34 rfl rfl ?_
      obtain ⟨Q15, h16, hT⟩ := hT
      refine iv_Cg_189 (npc := 40) dX10_firings_37 rfl rfl (Nat.le_of_ble_eq_true rfl) (by decide) (by decide) h16 (fun s17 e19 => ?_)
      replace hT := hT s17 e19
      refine g_aload_n (npc := 41) dX10_firings_40 rfl rfl rfl ?_
      refine gf_Cg_53 (npc := 44) dX10_firings_41 rfl rfl ?_
      refine g_aload_n (npc := 45) dX10_firings_44 rfl rfl rfl ?_
      refine gf_Cg_84 (npc := 48) dX10_firings_45 rfl rfl ?_
      obtain ⟨Q20, h21, hT⟩ := hT
      refine iv_Cg_186 (npc := 51) dX10_firings_48 rfl rfl (Nat.le_of_ble_eq_true rfl) (by decide) (by decide) h21 (fun r23 s22 e24 => ?_)
      replace hT := hT r23 s22 e24
      refine g_pop (npc := 52) dX10_firings_51 rfl rfl ?_
      refine g_aload_n (npc := 53) dX10_firings_52 rfl rfl rfl ?_
      refine gf_Cg_53 (npc := 56) dX10_firings_53 rfl rfl ?_
      refine gf_Cg_193 (npc := 59) dX10_firings_56 rfl rfl ?_
      refine g_iload_n (npc := 60) dX10_firings_59 rfl rfl rfl ?_
      obtain ⟨h25, hT⟩ := hT
      refine g_iald (npc := 61) dX10_firings_60 rfl (arSL arSC_41) h25 ?_
      exact g_iret dX10_firings_61 rfl rfl (by decide) ⟨_, rfl, hT⟩
    · replace hT := hTf (Decidable.not_not.mp c14)
      refine g_sipush (npc := 28) (x := (-10003)) dX10_firings_25 rfl (by decide) ?_
      exact g_iret dX10_firings_28 rfl rfl (by decide) ⟨_, rfl, hT⟩
  · replace hT := hTf (Decidable.not_not.mp c7)
    refine g_sipush (npc := 14) (x := (-10001)) dX10_firings_11 rfl (by decide) ?_
    exact g_iret dX10_firings_14 rfl rfl (by decide) ⟨_, rfl, hT⟩
set_option maxRecDepth 20000 in
theorem e_Cg_degree {n : Nat} {x1 : Int} {s : Sto} {Q : Int → Sto → Prop} (hT : ∃ Q1 : Int → Sto → Prop, K_Gr_hasNode n x1 s Q1 ∧ ∀ r4 s3, Q1 r4 s3 → (-2147483648 ≤ r4 ∧ r4 < 2147483648) ∧ ((r4 = 0) → Q (-10001) s3) ∧ ((¬ r4 = 0) → ∃ Q8 : Int → Sto → Prop, K_Gr_degreeOf n x1 s3 Q8 ∧ ∀ r11 s10, Q8 r11 s10 → Q r11 s10)) : K_Cg_degree n x1 s Q := by
  refine Sp.body (by decide +kernel) (Nat.le_of_ble_eq_true rfl) ?_
  show Go (SL n) M_Cg_degree (fI Q) 0 0 0 [(0, .ref 0), (1, iV x1)] [] s
  refine g_aload_n (npc := 1) dX10_degree_0 rfl rfl rfl ?_
  refine gf_Cg_12 (npc := 4) dX10_degree_1 rfl rfl ?_
  refine g_iload_n (npc := 5) dX10_degree_4 rfl rfl rfl ?_
  obtain ⟨Q1, h2, hT⟩ := hT
  refine iv_Cg_105 (npc := 8) dX10_degree_5 rfl rfl (Nat.le_of_ble_eq_true rfl) (by decide) (by decide) h2 (fun r4 s3 e5 => ?_)
  replace hT := hT r4 s3 e5
  obtain ⟨h6, hTt, hTf⟩ := hT
  refine g_if_eq (npc := 11) (tgt := 22) dX10_degree_8 rfl (by decide) h6 (fun c7 => ?_) (fun c7 => ?_)
  · replace hT := hTt c7
    refine g_sipush (npc := 25) (x := (-10001)) dX10_degree_22 rfl (by decide) ?_
    exact g_iret dX10_degree_25 rfl rfl (by decide) ⟨_, rfl, hT⟩
  · replace hT := hTf c7
    refine g_aload_n (npc := 12) dX10_degree_11 rfl rfl rfl ?_
    refine gf_Cg_12 (npc := 15) dX10_degree_12 rfl rfl ?_
    refine g_iload_n (npc := 16) dX10_degree_15 rfl rfl rfl ?_
    obtain ⟨Q8, h9, hT⟩ := hT
    refine iv_Cg_161 (npc := 19) dX10_degree_16 rfl rfl (Nat.le_of_ble_eq_true rfl) (by decide) (by decide) h9 (fun r11 s10 e12 => ?_)
    replace hT := hT r11 s10 e12
    refine g_goto (npc := 25) dX10_degree_19 (by decide) ?_
    exact g_iret dX10_degree_25 rfl rfl (by decide) ⟨_, rfl, hT⟩
set_option maxRecDepth 20000 in
theorem e_Cg_fire {n : Nat} {x1 : Int} {s : Sto} {Q : Int → Sto → Prop} (hT : ∃ Q1 : Int → Sto → Prop, K_Gr_hasChipsAt n x1 s Q1 ∧ ∀ r4 s3, Q1 r4 s3 → (-2147483648 ≤ r4 ∧ r4 < 2147483648) ∧ ((¬ r4 = 0) → ∃ Q8 : Int → Sto → Prop, K_Fi_canFire n 187 x1 s3 Q8 ∧ ∀ r11 s10, Q8 r11 s10 → (-2147483648 ≤ r11 ∧ r11 < 2147483648) ∧ ((¬ r11 = 0) → ∃ Q15 : Sto → Prop, K_Hi_record n 187 s10 Q15 ∧ ∀ s17, Q15 s17 → ∃ Q20 : Sto → Prop, K_Fi_give n 187 x1 1 s17 Q20 ∧ ∀ s22, Q20 s22 → (0 ≤ x1 ∧ x1 < 8) ∧ Q (s22 187 (Int.toNat x1)) s22) ∧ ((r11 = 0) → Q (-10004) s10)) ∧ ((r4 = 0) → Q (-10001) s3)) : K_Cg_fire n x1 s Q := by
  refine Sp.body (by decide +kernel) (Nat.le_of_ble_eq_true rfl) ?_
  show Go (SL n) M_Cg_fire (fI Q) 0 0 0 [(0, .ref 0), (1, iV x1)] [] s
  refine g_aload_n (npc := 1) dX10_fire_0 rfl rfl rfl ?_
  refine gf_Cg_12 (npc := 4) dX10_fire_1 rfl rfl ?_
  refine g_iload_n (npc := 5) dX10_fire_4 rfl rfl rfl ?_
  obtain ⟨Q1, h2, hT⟩ := hT
  refine iv_Cg_171 (npc := 8) dX10_fire_5 rfl rfl (Nat.le_of_ble_eq_true rfl) (by decide) (by decide) h2 (fun r4 s3 e5 => ?_)
  replace hT := hT r4 s3 e5
  obtain ⟨h6, hTt, hTf⟩ := hT
  refine g_if_ne (npc := 11) (tgt := 15) dX10_fire_8 rfl (by decide) h6 (fun c7 => ?_) (fun c7 => ?_)
  · replace hT := hTt c7
    refine g_aload_n (npc := 16) dX10_fire_15 rfl rfl rfl ?_
    refine gf_Cg_53 (npc := 19) dX10_fire_16 rfl rfl ?_
    refine g_aload_n (npc := 20) dX10_fire_19 rfl rfl rfl ?_
    refine gf_Cg_80 (npc := 23) dX10_fire_20 rfl rfl ?_
    refine g_iload_n (npc := 24) dX10_fire_23 rfl rfl rfl ?_
    obtain ⟨Q8, h9, hT⟩ := hT
    refine iv_Cg_178 (npc := 27) dX10_fire_24 rfl rfl (Nat.le_of_ble_eq_true rfl) (by decide) (by decide) h9 (fun r11 s10 e12 => ?_)
    replace hT := hT r11 s10 e12
    obtain ⟨h13, hTt, hTf⟩ := hT
    refine g_if_ne (npc := 30) (tgt := 34) dX10_fire_27 rfl (by decide) h13 (fun c14 => ?_) (fun c14 => ?_)
    · replace hT := hTt c14
      refine g_aload_n (npc := 35) dX10_fire_34 rfl rfl rfl ?_
      refine gf_Cg_28 (npc := 38) dX10_fire_35 rfl rfl ?_
      refine g_aload_n (npc := 39) dX10_fire_38 rfl rfl rfl ?_
      refine gf_Cg_80 (npc := 42) dX10_fire_39 rfl rfl ?_
      obtain ⟨Q15, h16, hT⟩ := hT
      refine iv_Cg_174 (npc := 45) dX10_fire_42 rfl rfl (Nat.le_of_ble_eq_true rfl) (by decide) (by decide) h16 (fun s17 e19 => ?_)
      replace hT := hT s17 e19
      refine g_aload_n (npc := 46) dX10_fire_45 rfl rfl rfl ?_
      refine gf_Cg_53 (npc := 49) dX10_fire_46 rfl rfl ?_
      refine g_aload_n (npc := 50) dX10_fire_49 rfl rfl rfl ?_
      refine gf_Cg_80 (npc := 53) dX10_fire_50 rfl rfl ?_
      refine g_iload_n (npc := 54) dX10_fire_53 rfl rfl rfl ?_
      refine g_iconst (npc := 55) dX10_fire_54 rfl ?_
      obtain ⟨Q20, h21, hT⟩ := hT
      refine iv_Cg_182 (npc := 58) dX10_fire_55 rfl rfl (Nat.le_of_ble_eq_true rfl) (by decide) (by decide) h21 (fun s22 e24 => ?_)
      replace hT := hT s22 e24
      refine g_aload_n (npc := 59) dX10_fire_58 rfl rfl rfl ?_
      refine gf_Cg_80 (npc := 62) dX10_fire_59 rfl rfl ?_
      refine g_iload_n (npc := 63) dX10_fire_62 rfl rfl rfl ?_
      obtain ⟨h25, hT⟩ := hT
      refine g_iald (npc := 64) dX10_fire_63 rfl (arSL arSC_187) h25 ?_
      exact g_iret dX10_fire_64 rfl rfl (by decide) ⟨_, rfl, hT⟩
    · replace hT := hTf (Decidable.not_not.mp c14)
      refine g_sipush (npc := 33) (x := (-10004)) dX10_fire_30 rfl (by decide) ?_
      exact g_iret dX10_fire_33 rfl rfl (by decide) ⟨_, rfl, hT⟩
  · replace hT := hTf (Decidable.not_not.mp c7)
    refine g_sipush (npc := 14) (x := (-10001)) dX10_fire_11 rfl (by decide) ?_
    exact g_iret dX10_fire_14 rfl rfl (by decide) ⟨_, rfl, hT⟩
set_option maxRecDepth 20000 in
theorem e_Cg_keep {n : Nat} {x1 : Int} {s : Sto} {Q : Int → Sto → Prop} (hT : ∃ Q1 : Int → Sto → Prop, K_Sl_has n x1 s Q1 ∧ ∀ r4 s3, Q1 r4 s3 → (-2147483648 ≤ r4 ∧ r4 < 2147483648) ∧ ((¬ r4 = 0) → ∃ Q8 : Int → Sto → Prop, K_Sl_isEmpty n x1 s3 Q8 ∧ ∀ r11 s10, Q8 r11 s10 → (-2147483648 ≤ r11 ∧ r11 < 2147483648) ∧ ((r11 = 0) → ∃ Q15 : Sto → Prop, K_Sl_put n x1 187 s10 Q15 ∧ ∀ s17, Q15 s17 → Q 0 s17) ∧ ((¬ r11 = 0) → ∃ Q20 : Sto → Prop, K_Sl_put n x1 187 s10 Q20 ∧ ∀ s22, Q20 s22 → Q 1 s22)) ∧ ((r4 = 0) → Q (-10001) s3)) : K_Cg_keep n x1 s Q := by
  refine Sp.body (by decide +kernel) (Nat.le_of_ble_eq_true rfl) ?_
  show Go (SL n) M_Cg_keep (fI Q) 0 0 0 [(0, .ref 0), (1, iV x1)] [] s
  refine g_aload_n (npc := 1) dX10_keep_0 rfl rfl rfl ?_
  refine gf_Cg_35 (npc := 4) dX10_keep_1 rfl rfl ?_
  refine g_iload_n (npc := 5) dX10_keep_4 rfl rfl rfl ?_
  obtain ⟨Q1, h2, hT⟩ := hT
  refine iv_Cg_228 (npc := 8) dX10_keep_5 rfl rfl (Nat.le_of_ble_eq_true rfl) (by decide) (by decide) h2 (fun r4 s3 e5 => ?_)
  replace hT := hT r4 s3 e5
  obtain ⟨h6, hTt, hTf⟩ := hT
  refine g_if_ne (npc := 11) (tgt := 15) dX10_keep_8 rfl (by decide) h6 (fun c7 => ?_) (fun c7 => ?_)
  · replace hT := hTt c7
    refine g_aload_n (npc := 16) dX10_keep_15 rfl rfl rfl ?_
    refine gf_Cg_35 (npc := 19) dX10_keep_16 rfl rfl ?_
    refine g_iload_n (npc := 20) dX10_keep_19 rfl rfl rfl ?_
    obtain ⟨Q8, h9, hT⟩ := hT
    refine iv_Cg_231 (npc := 23) dX10_keep_20 rfl rfl (Nat.le_of_ble_eq_true rfl) (by decide) (by decide) h9 (fun r11 s10 e12 => ?_)
    replace hT := hT r11 s10 e12
    obtain ⟨h13, hTt, hTf⟩ := hT
    refine g_if_eq (npc := 26) (tgt := 30) dX10_keep_23 rfl (by decide) h13 (fun c14 => ?_) (fun c14 => ?_)
    · replace hT := hTt c14
      refine g_iconst (npc := 31) dX10_keep_30 rfl ?_
      refine g_istore_n (npc := 32) (l' := [(0, .ref 0), (1, iV x1), (2, iV 0)]) dX10_keep_31 rfl rfl (by decide) rfl ?_
      refine g_aload_n (npc := 33) dX10_keep_32 rfl rfl rfl ?_
      refine gf_Cg_35 (npc := 36) dX10_keep_33 rfl rfl ?_
      refine g_iload_n (npc := 37) dX10_keep_36 rfl rfl rfl ?_
      refine g_aload_n (npc := 38) dX10_keep_37 rfl rfl rfl ?_
      refine gf_Cg_80 (npc := 41) dX10_keep_38 rfl rfl ?_
      obtain ⟨Q15, h16, hT⟩ := hT
      refine iv_Cg_234 (npc := 44) dX10_keep_41 rfl rfl (Nat.le_of_ble_eq_true rfl) (by decide) (by decide) h16 (fun s17 e19 => ?_)
      replace hT := hT s17 e19
      refine g_iload_n (npc := 45) dX10_keep_44 rfl rfl rfl ?_
      exact g_iret dX10_keep_45 rfl rfl (by decide) ⟨_, rfl, hT⟩
    · replace hT := hTf c14
      refine g_iconst (npc := 27) dX10_keep_26 rfl ?_
      refine g_goto (npc := 31) dX10_keep_27 (by decide) ?_
      refine g_istore_n (npc := 32) (l' := [(0, .ref 0), (1, iV x1), (2, iV 1)]) dX10_keep_31 rfl rfl (by decide) rfl ?_
      refine g_aload_n (npc := 33) dX10_keep_32 rfl rfl rfl ?_
      refine gf_Cg_35 (npc := 36) dX10_keep_33 rfl rfl ?_
      refine g_iload_n (npc := 37) dX10_keep_36 rfl rfl rfl ?_
      refine g_aload_n (npc := 38) dX10_keep_37 rfl rfl rfl ?_
      refine gf_Cg_80 (npc := 41) dX10_keep_38 rfl rfl ?_
      obtain ⟨Q20, h21, hT⟩ := hT
      refine iv_Cg_234 (npc := 44) dX10_keep_41 rfl rfl (Nat.le_of_ble_eq_true rfl) (by decide) (by decide) h21 (fun s22 e24 => ?_)
      replace hT := hT s22 e24
      refine g_iload_n (npc := 45) dX10_keep_44 rfl rfl rfl ?_
      exact g_iret dX10_keep_45 rfl rfl (by decide) ⟨_, rfl, hT⟩
  · replace hT := hTf (Decidable.not_not.mp c7)
    refine g_sipush (npc := 14) (x := (-10001)) dX10_keep_11 rfl (by decide) ?_
    exact g_iret dX10_keep_14 rfl rfl (by decide) ⟨_, rfl, hT⟩
set_option maxRecDepth 20000 in
theorem e_Cg_isSameClass {n : Nat} {x1 : Int} {s : Sto} {Q : Int → Sto → Prop} (hT : ∃ Q1 : Int → Sto → Prop, K_Sl_has n x1 s Q1 ∧ ∀ r4 s3, Q1 r4 s3 → (-2147483648 ≤ r4 ∧ r4 < 2147483648) ∧ ((¬ r4 = 0) → ∃ Q8 : Int → Sto → Prop, K_Sl_isEmpty n x1 s3 Q8 ∧ ∀ r11 s10, Q8 r11 s10 → (-2147483648 ≤ r11 ∧ r11 < 2147483648) ∧ ((r11 = 0) → ∃ Q15 : Int → Sto → Prop, K_Gr_isConnected n s10 Q15 ∧ ∀ r18 s17, Q15 r18 s17 → (-2147483648 ≤ r18 ∧ r18 < 2147483648) ∧ ((¬ r18 = 0) → ∃ Q22 : Sto → Prop, K_Cg_copyChips n 187 188 s17 Q22 ∧ ∀ s24, Q22 s24 → ∃ Q27 : Sto → Prop, K_Sl_copyTo n x1 189 s24 Q27 ∧ ∀ s29, Q27 s29 → ∃ Q32 : Sto → Prop, K_Fi_toRecurrent n 188 s29 Q32 ∧ ∀ s34, Q32 s34 → ∃ Q37 : Sto → Prop, K_Fi_toRecurrent n 189 s34 Q37 ∧ ∀ s39, Q37 s39 → ∃ Q42 : Int → Sto → Prop, K_Cg_isEqual n 188 189 s39 Q42 ∧ ∀ r45 s44, Q42 r45 s44 → (-2147483648 ≤ r45 ∧ r45 < 2147483648) ∧ ((r45 = 0) → Q 0 s44) ∧ ((¬ r45 = 0) → Q 1 s44)) ∧ ((r18 = 0) → Q (-10003) s17)) ∧ ((¬ r11 = 0) → Q (-10004) s10)) ∧ ((r4 = 0) → Q (-10001) s3)) : K_Cg_isSameClass n x1 s Q := by
  refine Sp.body (by decide +kernel) (Nat.le_of_ble_eq_true rfl) ?_
  show Go (SL n) M_Cg_isSameClass (fI Q) 0 0 0 [(0, .ref 0), (1, iV x1)] [] s
  refine g_aload_n (npc := 1) dX10_isSameClass_0 rfl rfl rfl ?_
  refine gf_Cg_35 (npc := 4) dX10_isSameClass_1 rfl rfl ?_
  refine g_iload_n (npc := 5) dX10_isSameClass_4 rfl rfl rfl ?_
  obtain ⟨Q1, h2, hT⟩ := hT
  refine iv_Cg_228 (npc := 8) dX10_isSameClass_5 rfl rfl (Nat.le_of_ble_eq_true rfl) (by decide) (by decide) h2 (fun r4 s3 e5 => ?_)
  replace hT := hT r4 s3 e5
  obtain ⟨h6, hTt, hTf⟩ := hT
  refine g_if_ne (npc := 11) (tgt := 15) dX10_isSameClass_8 rfl (by decide) h6 (fun c7 => ?_) (fun c7 => ?_)
  · replace hT := hTt c7
    refine g_aload_n (npc := 16) dX10_isSameClass_15 rfl rfl rfl ?_
    refine gf_Cg_35 (npc := 19) dX10_isSameClass_16 rfl rfl ?_
    refine g_iload_n (npc := 20) dX10_isSameClass_19 rfl rfl rfl ?_
    obtain ⟨Q8, h9, hT⟩ := hT
    refine iv_Cg_231 (npc := 23) dX10_isSameClass_20 rfl rfl (Nat.le_of_ble_eq_true rfl) (by decide) (by decide) h9 (fun r11 s10 e12 => ?_)
    replace hT := hT r11 s10 e12
    obtain ⟨h13, hTt, hTf⟩ := hT
    refine g_if_eq (npc := 26) (tgt := 30) dX10_isSameClass_23 rfl (by decide) h13 (fun c14 => ?_) (fun c14 => ?_)
    · replace hT := hTt c14
      refine g_aload_n (npc := 31) dX10_isSameClass_30 rfl rfl rfl ?_
      refine gf_Cg_12 (npc := 34) dX10_isSameClass_31 rfl rfl ?_
      obtain ⟨Q15, h16, hT⟩ := hT
      refine iv_Cg_147 (npc := 37) dX10_isSameClass_34 rfl rfl (Nat.le_of_ble_eq_true rfl) (by decide) (by decide) h16 (fun r18 s17 e19 => ?_)
      replace hT := hT r18 s17 e19
      obtain ⟨h20, hTt, hTf⟩ := hT
      refine g_if_ne (npc := 40) (tgt := 44) dX10_isSameClass_37 rfl (by decide) h20 (fun c21 => ?_) (fun c21 => ?_)
      · replace hT := hTt c21
        refine g_aload_n (npc := 45) dX10_isSameClass_44 rfl rfl rfl ?_
        refine gf_Cg_80 (npc := 48) dX10_isSameClass_45 rfl rfl ?_
        refine g_aload_n (npc := 49) dX10_isSameClass_48 rfl rfl rfl ?_
        refine gf_Cg_84 (npc := 52) dX10_isSameClass_49 rfl rfl ?_
        obtain ⟨Q22, h23, hT⟩ := hT
        refine iv_Cg_189 (npc := 55) dX10_isSameClass_52 rfl rfl (Nat.le_of_ble_eq_true rfl) (by decide) (by decide) h23 (fun s24 e26 => ?_)
        replace hT := hT s24 e26
        refine g_aload_n (npc := 56) dX10_isSameClass_55 rfl rfl rfl ?_
        refine gf_Cg_35 (npc := 59) dX10_isSameClass_56 rfl rfl ?_
        refine g_iload_n (npc := 60) dX10_isSameClass_59 rfl rfl rfl ?_
        refine g_aload_n (npc := 61) dX10_isSameClass_60 rfl rfl rfl ?_
        refine gf_Cg_87 (npc := 64) dX10_isSameClass_61 rfl rfl ?_
        obtain ⟨Q27, h28, hT⟩ := hT
        refine iv_Cg_238 (npc := 67) dX10_isSameClass_64 rfl rfl (Nat.le_of_ble_eq_true rfl) (by decide) (by decide) h28 (fun s29 e31 => ?_)
        replace hT := hT s29 e31
        refine g_aload_n (npc := 68) dX10_isSameClass_67 rfl rfl rfl ?_
        refine gf_Cg_53 (npc := 71) dX10_isSameClass_68 rfl rfl ?_
        refine g_aload_n (npc := 72) dX10_isSameClass_71 rfl rfl rfl ?_
        refine gf_Cg_84 (npc := 75) dX10_isSameClass_72 rfl rfl ?_
        obtain ⟨Q32, h33, hT⟩ := hT
        refine iv_Cg_199 (npc := 78) dX10_isSameClass_75 rfl rfl (Nat.le_of_ble_eq_true rfl) (by decide) (by decide) h33 (fun s34 e36 => ?_)
        replace hT := hT s34 e36
        refine g_aload_n (npc := 79) dX10_isSameClass_78 rfl rfl rfl ?_
        refine gf_Cg_53 (npc := 82) dX10_isSameClass_79 rfl rfl ?_
        refine g_aload_n (npc := 83) dX10_isSameClass_82 rfl rfl rfl ?_
        refine gf_Cg_87 (npc := 86) dX10_isSameClass_83 rfl rfl ?_
        obtain ⟨Q37, h38, hT⟩ := hT
        refine iv_Cg_199 (npc := 89) dX10_isSameClass_86 rfl rfl (Nat.le_of_ble_eq_true rfl) (by decide) (by decide) h38 (fun s39 e41 => ?_)
        replace hT := hT s39 e41
        refine g_aload_n (npc := 90) dX10_isSameClass_89 rfl rfl rfl ?_
        refine gf_Cg_84 (npc := 93) dX10_isSameClass_90 rfl rfl ?_
        refine g_aload_n (npc := 94) dX10_isSameClass_93 rfl rfl rfl ?_
        refine gf_Cg_87 (npc := 97) dX10_isSameClass_94 rfl rfl ?_
        obtain ⟨Q42, h43, hT⟩ := hT
        refine iv_Cg_202 (npc := 100) dX10_isSameClass_97 rfl rfl (Nat.le_of_ble_eq_true rfl) (by decide) (by decide) h43 (fun r45 s44 e46 => ?_)
        replace hT := hT r45 s44 e46
        obtain ⟨h47, hTt, hTf⟩ := hT
        refine g_if_eq (npc := 103) (tgt := 107) dX10_isSameClass_100 rfl (by decide) h47 (fun c48 => ?_) (fun c48 => ?_)
        · replace hT := hTt c48
          refine g_iconst (npc := 108) dX10_isSameClass_107 rfl ?_
          exact g_iret dX10_isSameClass_108 rfl rfl (by decide) ⟨_, rfl, hT⟩
        · replace hT := hTf c48
          refine g_iconst (npc := 104) dX10_isSameClass_103 rfl ?_
          refine g_goto (npc := 108) dX10_isSameClass_104 (by decide) ?_
          exact g_iret dX10_isSameClass_108 rfl rfl (by decide) ⟨_, rfl, hT⟩
      · replace hT := hTf (Decidable.not_not.mp c21)
        refine g_sipush (npc := 43) (x := (-10003)) dX10_isSameClass_40 rfl (by decide) ?_
        exact g_iret dX10_isSameClass_43 rfl rfl (by decide) ⟨_, rfl, hT⟩
    · replace hT := hTf c14
      refine g_sipush (npc := 29) (x := (-10004)) dX10_isSameClass_26 rfl (by decide) ?_
      exact g_iret dX10_isSameClass_29 rfl rfl (by decide) ⟨_, rfl, hT⟩
  · replace hT := hTf (Decidable.not_not.mp c7)
    refine g_sipush (npc := 14) (x := (-10001)) dX10_isSameClass_11 rfl (by decide) ?_
    exact g_iret dX10_isSameClass_14 rfl rfl (by decide) ⟨_, rfl, hT⟩
set_option maxRecDepth 20000 in
theorem e_Cg_level {n : Nat} {s : Sto} {Q : Int → Sto → Prop} (hT : ∃ Q1 : Int → Sto → Prop, K_Cg_isRecurrent n s Q1 ∧ ∀ r4 s3, Q1 r4 s3 → (-2147483648 ≤ r4 ∧ r4 < 2147483648) ∧ ((¬ r4 = 0) → ∃ Q8 : Int → Sto → Prop, K_Cg_sumOf n 187 s3 Q8 ∧ ∀ r11 s10, Q8 r11 s10 → ∃ Q13 : Int → Sto → Prop, K_Gr_edgesAwayFromSink n s10 Q13 ∧ ∀ r16 s15, Q13 r16 s15 → Q (r11 - r16) s15) ∧ ((r4 = 0) → Q (-10004) s3)) : K_Cg_level n s Q := by
  refine Sp.body (by decide +kernel) (Nat.le_of_ble_eq_true rfl) ?_
  show Go (SL n) M_Cg_level (fI Q) 0 0 0 [(0, .ref 0)] [] s
  refine g_aload_n (npc := 1) dX10_level_0 rfl rfl rfl ?_
  obtain ⟨Q1, h2, hT⟩ := hT
  refine iv_Cg_210 (npc := 4) dX10_level_1 rfl rfl (Nat.le_of_ble_eq_true rfl) (by decide) (by decide) h2 (fun r4 s3 e5 => ?_)
  replace hT := hT r4 s3 e5
  obtain ⟨h6, hTt, hTf⟩ := hT
  refine g_if_ne (npc := 7) (tgt := 11) dX10_level_4 rfl (by decide) h6 (fun c7 => ?_) (fun c7 => ?_)
  · replace hT := hTt c7
    refine g_aload_n (npc := 12) dX10_level_11 rfl rfl rfl ?_
    refine gf_Cg_80 (npc := 15) dX10_level_12 rfl rfl ?_
    obtain ⟨Q8, h9, hT⟩ := hT
    refine iv_Cg_151 (npc := 18) dX10_level_15 rfl rfl (Nat.le_of_ble_eq_true rfl) (by decide) (by decide) h9 (fun r11 s10 e12 => ?_)
    replace hT := hT r11 s10 e12
    refine g_aload_n (npc := 19) dX10_level_18 rfl rfl rfl ?_
    refine gf_Cg_12 (npc := 22) dX10_level_19 rfl rfl ?_
    obtain ⟨Q13, h14, hT⟩ := hT
    refine iv_Cg_158 (npc := 25) dX10_level_22 rfl rfl (Nat.le_of_ble_eq_true rfl) (by decide) (by decide) h14 (fun r16 s15 e17 => ?_)
    replace hT := hT r16 s15 e17
    refine g_isub (npc := 26) dX10_level_25 rfl ?_
    exact g_iret dX10_level_26 rfl rfl (by decide) ⟨_, rfl, hT⟩
  · replace hT := hTf (Decidable.not_not.mp c7)
    refine g_sipush (npc := 10) (x := (-10004)) dX10_level_7 rfl (by decide) ?_
    exact g_iret dX10_level_10 rfl rfl (by decide) ⟨_, rfl, hT⟩
set_option maxRecDepth 20000 in
theorem e_Cg_takeTree {n : Nat} {x1 : Int} {s : Sto} {Q : Int → Sto → Prop} (hT : ∃ Q1 : Int → Sto → Prop, K_Gr_isSpanningTree n x1 s Q1 ∧ ∀ r4 s3, Q1 r4 s3 → (-2147483648 ≤ r4 ∧ r4 < 2147483648) ∧ ((¬ r4 = 0) → ∃ Q8 : Sto → Prop, K_Hi_record n 187 s3 Q8 ∧ ∀ s10, Q8 s10 → ∃ Q13 : Sto → Prop, K_Tr_toStateOf n x1 187 s10 Q13 ∧ ∀ s15, Q13 s15 → ∃ Q18 : Int → Sto → Prop, K_Cg_sumOf n 187 s15 Q18 ∧ ∀ r21 s20, Q18 r21 s20 → Q r21 s20) ∧ ((r4 = 0) → Q (-10002) s3)) : K_Cg_takeTree n x1 s Q := by
  refine Sp.body (by decide +kernel) (Nat.le_of_ble_eq_true rfl) ?_
  show Go (SL n) M_Cg_takeTree (fI Q) 0 0 0 [(0, .ref 0), (1, iV x1)] [] s
  refine g_aload_n (npc := 1) dX10_takeTree_0 rfl rfl rfl ?_
  refine gf_Cg_12 (npc := 4) dX10_takeTree_1 rfl rfl ?_
  refine g_iload_n (npc := 5) dX10_takeTree_4 rfl rfl rfl ?_
  obtain ⟨Q1, h2, hT⟩ := hT
  refine iv_Cg_270 (npc := 8) dX10_takeTree_5 rfl rfl (Nat.le_of_ble_eq_true rfl) (by decide) (by decide) h2 (fun r4 s3 e5 => ?_)
  replace hT := hT r4 s3 e5
  obtain ⟨h6, hTt, hTf⟩ := hT
  refine g_if_ne (npc := 11) (tgt := 15) dX10_takeTree_8 rfl (by decide) h6 (fun c7 => ?_) (fun c7 => ?_)
  · replace hT := hTt c7
    refine g_aload_n (npc := 16) dX10_takeTree_15 rfl rfl rfl ?_
    refine gf_Cg_28 (npc := 19) dX10_takeTree_16 rfl rfl ?_
    refine g_aload_n (npc := 20) dX10_takeTree_19 rfl rfl rfl ?_
    refine gf_Cg_80 (npc := 23) dX10_takeTree_20 rfl rfl ?_
    obtain ⟨Q8, h9, hT⟩ := hT
    refine iv_Cg_174 (npc := 26) dX10_takeTree_23 rfl rfl (Nat.le_of_ble_eq_true rfl) (by decide) (by decide) h9 (fun s10 e12 => ?_)
    replace hT := hT s10 e12
    refine g_aload_n (npc := 27) dX10_takeTree_26 rfl rfl rfl ?_
    refine gf_Cg_69 (npc := 30) dX10_takeTree_27 rfl rfl ?_
    refine g_iload_n (npc := 31) dX10_takeTree_30 rfl rfl rfl ?_
    refine g_aload_n (npc := 32) dX10_takeTree_31 rfl rfl rfl ?_
    refine gf_Cg_80 (npc := 35) dX10_takeTree_32 rfl rfl ?_
    obtain ⟨Q13, h14, hT⟩ := hT
    refine iv_Cg_273 (npc := 38) dX10_takeTree_35 rfl rfl (Nat.le_of_ble_eq_true rfl) (by decide) (by decide) h14 (fun s15 e17 => ?_)
    replace hT := hT s15 e17
    refine g_aload_n (npc := 39) dX10_takeTree_38 rfl rfl rfl ?_
    refine gf_Cg_80 (npc := 42) dX10_takeTree_39 rfl rfl ?_
    obtain ⟨Q18, h19, hT⟩ := hT
    refine iv_Cg_151 (npc := 45) dX10_takeTree_42 rfl rfl (Nat.le_of_ble_eq_true rfl) (by decide) (by decide) h19 (fun r21 s20 e22 => ?_)
    replace hT := hT r21 s20 e22
    exact g_iret dX10_takeTree_45 rfl rfl (by decide) ⟨_, rfl, hT⟩
  · replace hT := hTf (Decidable.not_not.mp c7)
    refine g_sipush (npc := 14) (x := (-10002)) dX10_takeTree_11 rfl (by decide) ?_
    exact g_iret dX10_takeTree_14 rfl rfl (by decide) ⟨_, rfl, hT⟩
set_option maxRecDepth 20000 in
theorem e_Cg_identity {n : Nat} {x1 : Int} {s : Sto} {Q : Int → Sto → Prop} (hT : ∃ Q1 : Int → Sto → Prop, K_Gr_hasChipsAt n x1 s Q1 ∧ ∀ r4 s3, Q1 r4 s3 → (-2147483648 ≤ r4 ∧ r4 < 2147483648) ∧ ((¬ r4 = 0) → ∃ Q8 : Int → Sto → Prop, K_Gr_isConnected n s3 Q8 ∧ ∀ r11 s10, Q8 r11 s10 → (-2147483648 ≤ r11 ∧ r11 < 2147483648) ∧ ((¬ r11 = 0) → ∃ Q15 : Sto → Prop, K_Cg_clearChips n 188 s10 Q15 ∧ ∀ s17, Q15 s17 → ∃ Q20 : Sto → Prop, K_Fi_toRecurrent n 188 s17 Q20 ∧ ∀ s22, Q20 s22 → (0 ≤ x1 ∧ x1 < 8) ∧ Q (s22 188 (Int.toNat x1)) s22) ∧ ((r11 = 0) → Q (-10003) s10)) ∧ ((r4 = 0) → Q (-10001) s3)) : K_Cg_identity n x1 s Q := by
  refine Sp.body (by decide +kernel) (Nat.le_of_ble_eq_true rfl) ?_
  show Go (SL n) M_Cg_identity (fI Q) 0 0 0 [(0, .ref 0), (1, iV x1)] [] s
  refine g_aload_n (npc := 1) dX10_identity_0 rfl rfl rfl ?_
  refine gf_Cg_12 (npc := 4) dX10_identity_1 rfl rfl ?_
  refine g_iload_n (npc := 5) dX10_identity_4 rfl rfl rfl ?_
  obtain ⟨Q1, h2, hT⟩ := hT
  refine iv_Cg_171 (npc := 8) dX10_identity_5 rfl rfl (Nat.le_of_ble_eq_true rfl) (by decide) (by decide) h2 (fun r4 s3 e5 => ?_)
  replace hT := hT r4 s3 e5
  obtain ⟨h6, hTt, hTf⟩ := hT
  refine g_if_ne (npc := 11) (tgt := 15) dX10_identity_8 rfl (by decide) h6 (fun c7 => ?_) (fun c7 => ?_)
  · replace hT := hTt c7
    refine g_aload_n (npc := 16) dX10_identity_15 rfl rfl rfl ?_
    refine gf_Cg_12 (npc := 19) dX10_identity_16 rfl rfl ?_
    obtain ⟨Q8, h9, hT⟩ := hT
    refine iv_Cg_147 (npc := 22) dX10_identity_19 rfl rfl (Nat.le_of_ble_eq_true rfl) (by decide) (by decide) h9 (fun r11 s10 e12 => ?_)
    replace hT := hT r11 s10 e12
    obtain ⟨h13, hTt, hTf⟩ := hT
    refine g_if_ne (npc := 25) (tgt := 29) dX10_identity_22 rfl (by decide) h13 (fun c14 => ?_) (fun c14 => ?_)
    · replace hT := hTt c14
      refine g_aload_n (npc := 30) dX10_identity_29 rfl rfl rfl ?_
      refine gf_Cg_84 (npc := 33) dX10_identity_30 rfl rfl ?_
      obtain ⟨Q15, h16, hT⟩ := hT
      refine iv_Cg_244 (npc := 36) dX10_identity_33 rfl rfl (Nat.le_of_ble_eq_true rfl) (by decide) (by decide) h16 (fun s17 e19 => ?_)
      replace hT := hT s17 e19
      refine g_aload_n (npc := 37) dX10_identity_36 rfl rfl rfl ?_
      refine gf_Cg_53 (npc := 40) dX10_identity_37 rfl rfl ?_
      refine g_aload_n (npc := 41) dX10_identity_40 rfl rfl rfl ?_
      refine gf_Cg_84 (npc := 44) dX10_identity_41 rfl rfl ?_
      obtain ⟨Q20, h21, hT⟩ := hT
      refine iv_Cg_199 (npc := 47) dX10_identity_44 rfl rfl (Nat.le_of_ble_eq_true rfl) (by decide) (by decide) h21 (fun s22 e24 => ?_)
      replace hT := hT s22 e24
      refine g_aload_n (npc := 48) dX10_identity_47 rfl rfl rfl ?_
      refine gf_Cg_84 (npc := 51) dX10_identity_48 rfl rfl ?_
      refine g_iload_n (npc := 52) dX10_identity_51 rfl rfl rfl ?_
      obtain ⟨h25, hT⟩ := hT
      refine g_iald (npc := 53) dX10_identity_52 rfl (arSL arSC_188) h25 ?_
      exact g_iret dX10_identity_53 rfl rfl (by decide) ⟨_, rfl, hT⟩
    · replace hT := hTf (Decidable.not_not.mp c14)
      refine g_sipush (npc := 28) (x := (-10003)) dX10_identity_25 rfl (by decide) ?_
      exact g_iret dX10_identity_28 rfl rfl (by decide) ⟨_, rfl, hT⟩
  · replace hT := hTf (Decidable.not_not.mp c7)
    refine g_sipush (npc := 14) (x := (-10001)) dX10_identity_11 rfl (by decide) ?_
    exact g_iret dX10_identity_14 rfl rfl (by decide) ⟨_, rfl, hT⟩
abbrev H_Cg_add_44 (n : Nat) (Q : Int → Sto → Prop) (x2 : Int) (s : Sto) : Prop := Go (SL n) M_Cg_add (fI Q) 0 0 44 [(0, .ref 0), (2, iV x2)] [] s
set_option maxRecDepth 20000 in
theorem b_Cg_add_44 {n : Nat} {Q : Int → Sto → Prop} {x2 : Int} {s : Sto} (hT : (-2147483648 ≤ x2 ∧ x2 < 2147483648) ∧ ((8 ≤ x2) → ∃ Q22 : Sto → Prop, K_Hi_record n 187 s Q22 ∧ ∀ s24, Q22 s24 → ∃ Q27 : Sto → Prop, K_Cg_copyChips n 188 187 s24 Q27 ∧ ∀ s29, Q27 s29 → ∃ Q32 : Int → Sto → Prop, K_Cg_sumOf n 187 s29 Q32 ∧ ∀ r35 s34, Q32 r35 s34 → Q r35 s34) ∧ ((x2 < 8) → (0 ≤ x2 ∧ x2 < 8) ∧ (0 ≤ x2 ∧ x2 < 8) ∧ (0 ≤ x2 ∧ x2 < 8) ∧ ∀ s40, s40 = up s 188 (Int.toNat x2) ((s 188 (Int.toNat x2)) + (s 187 (Int.toNat x2))) → (0 ≤ x2 ∧ x2 < 8) ∧ (-2147483648 ≤ (s40 188 (Int.toNat x2)) ∧ (s40 188 (Int.toNat x2)) < 2147483648) ∧ (((s40 188 (Int.toNat x2)) ≤ 2000) → H_Cg_add_44 n Q (x2 + 1) s40) ∧ ((2000 < (s40 188 (Int.toNat x2))) → Q (-10005) s40))) : H_Cg_add_44 n Q x2 s := by
  refine g_iload_n (npc := 45) dX10_add_44 rfl rfl rfl ?_
  refine g_bipush (npc := 47) (x := 8) dX10_add_45 rfl (by decide) ?_
  obtain ⟨h20, hTt, hTf⟩ := hT
  refine g_icmp_ge (npc := 50) (tgt := 87) dX10_add_47 rfl (by decide) ⟨h20, by decide, by decide⟩ (fun c21 => ?_) (fun c21 => ?_)
  · replace hT := hTt c21
    refine g_aload_n (npc := 88) dX10_add_87 rfl rfl rfl ?_
    refine gf_Cg_28 (npc := 91) dX10_add_88 rfl rfl ?_
    refine g_aload_n (npc := 92) dX10_add_91 rfl rfl rfl ?_
    refine gf_Cg_80 (npc := 95) dX10_add_92 rfl rfl ?_
    obtain ⟨Q22, h23, hT⟩ := hT
    refine iv_Cg_174 (npc := 98) dX10_add_95 rfl rfl (Nat.le_of_ble_eq_true rfl) (by decide) (by decide) h23 (fun s24 e26 => ?_)
    replace hT := hT s24 e26
    refine g_aload_n (npc := 99) dX10_add_98 rfl rfl rfl ?_
    refine gf_Cg_84 (npc := 102) dX10_add_99 rfl rfl ?_
    refine g_aload_n (npc := 103) dX10_add_102 rfl rfl rfl ?_
    refine gf_Cg_80 (npc := 106) dX10_add_103 rfl rfl ?_
    obtain ⟨Q27, h28, hT⟩ := hT
    refine iv_Cg_189 (npc := 109) dX10_add_106 rfl rfl (Nat.le_of_ble_eq_true rfl) (by decide) (by decide) h28 (fun s29 e31 => ?_)
    replace hT := hT s29 e31
    refine g_aload_n (npc := 110) dX10_add_109 rfl rfl rfl ?_
    refine gf_Cg_80 (npc := 113) dX10_add_110 rfl rfl ?_
    obtain ⟨Q32, h33, hT⟩ := hT
    refine iv_Cg_151 (npc := 116) dX10_add_113 rfl rfl (Nat.le_of_ble_eq_true rfl) (by decide) (by decide) h33 (fun r35 s34 e36 => ?_)
    replace hT := hT r35 s34 e36
    exact g_iret dX10_add_116 rfl rfl (by decide) ⟨_, rfl, hT⟩
  · replace hT := hTf (Int.not_le.mp c21)
    refine g_aload_n (npc := 51) dX10_add_50 rfl rfl rfl ?_
    refine gf_Cg_84 (npc := 54) dX10_add_51 rfl rfl ?_
    refine g_iload_n (npc := 55) dX10_add_54 rfl rfl rfl ?_
    refine g_dup2 (npc := 56) dX10_add_55 rfl rfl rfl ?_
    obtain ⟨h37, hT⟩ := hT
    refine g_iald (npc := 57) dX10_add_56 rfl (arSL arSC_188) h37 ?_
    refine g_aload_n (npc := 58) dX10_add_57 rfl rfl rfl ?_
    refine gf_Cg_80 (npc := 61) dX10_add_58 rfl rfl ?_
    refine g_iload_n (npc := 62) dX10_add_61 rfl rfl rfl ?_
    obtain ⟨h38, hT⟩ := hT
    refine g_iald (npc := 63) dX10_add_62 rfl (arSL arSC_187) h38 ?_
    refine g_iadd (npc := 64) dX10_add_63 rfl ?_
    obtain ⟨h39, hT⟩ := hT
    replace hT := hT _ rfl
    refine g_iast (npc := 65) dX10_add_64 rfl (arSL arSC_188) h39  ?_
    refine g_aload_n (npc := 66) dX10_add_65 rfl rfl rfl ?_
    refine gf_Cg_84 (npc := 69) dX10_add_66 rfl rfl ?_
    refine g_iload_n (npc := 70) dX10_add_69 rfl rfl rfl ?_
    obtain ⟨h41, hT⟩ := hT
    refine g_iald (npc := 71) dX10_add_70 rfl (arSL arSC_188) h41 ?_
    refine g_sipush (npc := 74) (x := 2000) dX10_add_71 rfl (by decide) ?_
    obtain ⟨h42, hTt, hTf⟩ := hT
    refine g_icmp_le (npc := 77) (tgt := 81) dX10_add_74 rfl (by decide) ⟨h42, by decide, by decide⟩ (fun c43 => ?_) (fun c43 => ?_)
    · replace hT := hTt c43
      refine g_iinc (npc := 84) (y := (x2 + 1)) (l' := [(0, .ref 0), (2, iV (x2 + 1))]) dX10_add_81 rfl (by decide) rfl (by omega) rfl ?_
      refine g_goto (npc := 44) dX10_add_84 (by decide) ?_
      exact hT
    · replace hT := hTf (Int.not_le.mp c43)
      refine g_sipush (npc := 80) (x := (-10005)) dX10_add_77 rfl (by decide) ?_
      exact g_iret dX10_add_80 rfl rfl (by decide) ⟨_, rfl, hT⟩
set_option maxRecDepth 20000 in
theorem e_Cg_add {n : Nat} {x1 : Int} {s : Sto} {Q : Int → Sto → Prop} (hT : ∃ Q1 : Int → Sto → Prop, K_Sl_has n x1 s Q1 ∧ ∀ r4 s3, Q1 r4 s3 → (-2147483648 ≤ r4 ∧ r4 < 2147483648) ∧ ((¬ r4 = 0) → ∃ Q8 : Int → Sto → Prop, K_Sl_isEmpty n x1 s3 Q8 ∧ ∀ r11 s10, Q8 r11 s10 → (-2147483648 ≤ r11 ∧ r11 < 2147483648) ∧ ((r11 = 0) → ∃ Q15 : Sto → Prop, K_Sl_copyTo n x1 188 s10 Q15 ∧ ∀ s17, Q15 s17 → H_Cg_add_44 n Q 0 s17) ∧ ((¬ r11 = 0) → Q (-10004) s10)) ∧ ((r4 = 0) → Q (-10001) s3)) : K_Cg_add n x1 s Q := by
  refine Sp.body (by decide +kernel) (Nat.le_of_ble_eq_true rfl) ?_
  show Go (SL n) M_Cg_add (fI Q) 0 0 0 [(0, .ref 0), (1, iV x1)] [] s
  refine g_aload_n (npc := 1) dX10_add_0 rfl rfl rfl ?_
  refine gf_Cg_35 (npc := 4) dX10_add_1 rfl rfl ?_
  refine g_iload_n (npc := 5) dX10_add_4 rfl rfl rfl ?_
  obtain ⟨Q1, h2, hT⟩ := hT
  refine iv_Cg_228 (npc := 8) dX10_add_5 rfl rfl (Nat.le_of_ble_eq_true rfl) (by decide) (by decide) h2 (fun r4 s3 e5 => ?_)
  replace hT := hT r4 s3 e5
  obtain ⟨h6, hTt, hTf⟩ := hT
  refine g_if_ne (npc := 11) (tgt := 15) dX10_add_8 rfl (by decide) h6 (fun c7 => ?_) (fun c7 => ?_)
  · replace hT := hTt c7
    refine g_aload_n (npc := 16) dX10_add_15 rfl rfl rfl ?_
    refine gf_Cg_35 (npc := 19) dX10_add_16 rfl rfl ?_
    refine g_iload_n (npc := 20) dX10_add_19 rfl rfl rfl ?_
    obtain ⟨Q8, h9, hT⟩ := hT
    refine iv_Cg_231 (npc := 23) dX10_add_20 rfl rfl (Nat.le_of_ble_eq_true rfl) (by decide) (by decide) h9 (fun r11 s10 e12 => ?_)
    replace hT := hT r11 s10 e12
    obtain ⟨h13, hTt, hTf⟩ := hT
    refine g_if_eq (npc := 26) (tgt := 30) dX10_add_23 rfl (by decide) h13 (fun c14 => ?_) (fun c14 => ?_)
    · replace hT := hTt c14
      refine g_aload_n (npc := 31) dX10_add_30 rfl rfl rfl ?_
      refine gf_Cg_35 (npc := 34) dX10_add_31 rfl rfl ?_
      refine g_iload_n (npc := 35) dX10_add_34 rfl rfl rfl ?_
      refine g_aload_n (npc := 36) dX10_add_35 rfl rfl rfl ?_
      refine gf_Cg_84 (npc := 39) dX10_add_36 rfl rfl ?_
      obtain ⟨Q15, h16, hT⟩ := hT
      refine iv_Cg_238 (npc := 42) dX10_add_39 rfl rfl (Nat.le_of_ble_eq_true rfl) (by decide) (by decide) h16 (fun s17 e19 => ?_)
      replace hT := hT s17 e19
      refine g_iconst (npc := 43) dX10_add_42 rfl ?_
      refine g_istore_n (npc := 44) (l' := [(0, .ref 0), (1, iV x1), (2, iV 0)]) dX10_add_43 rfl rfl (by decide) rfl ?_
      refine Go.lsub [0, 2] rfl ?_
      exact hT
    · replace hT := hTf c14
      refine g_sipush (npc := 29) (x := (-10004)) dX10_add_26 rfl (by decide) ?_
      exact g_iret dX10_add_29 rfl rfl (by decide) ⟨_, rfl, hT⟩
  · replace hT := hTf (Decidable.not_not.mp c7)
    refine g_sipush (npc := 14) (x := (-10001)) dX10_add_11 rfl (by decide) ?_
    exact g_iret dX10_add_14 rfl rfl (by decide) ⟨_, rfl, hT⟩
set_option maxRecDepth 20000 in
theorem e_Cg_treeAt {n : Nat} {x1 : Int} {s : Sto} {Q : Int → Sto → Prop} (hT : (-2147483648 ≤ x1 ∧ x1 < 2147483648) ∧ ((0 ≤ x1) → (-2147483648 ≤ x1 ∧ x1 < 2147483648) ∧ ∃ Q4 : Int → Sto → Prop, K_Tr_count n 0 0 s Q4 ∧ ∀ r7 s6, Q4 r7 s6 → ((-9223372036854775808 ≤ x1 ∧ x1 < 9223372036854775808) ∧ -9223372036854775808 ≤ r7 ∧ r7 < 9223372036854775808) ∧ ((x1 < r7) → ∃ Q11 : Int → Sto → Prop, K_Tr_treeNumbered n x1 s6 Q11 ∧ ∀ r14 s13, Q11 r14 s13 → Q r14 s13) ∧ ((r7 ≤ x1) → Q (-10007) s6)) ∧ ((x1 < 0) → Q (-10002) s)) : K_Cg_treeAt n x1 s Q := by
  refine Sp.body (by decide +kernel) (Nat.le_of_ble_eq_true rfl) ?_
  show Go (SL n) M_Cg_treeAt (fI Q) 0 0 0 [(0, .ref 0), (1, iV x1)] [] s
  refine g_iload_n (npc := 1) dX10_treeAt_0 rfl rfl rfl ?_
  obtain ⟨h1, hTt, hTf⟩ := hT
  refine g_if_ge (npc := 4) (tgt := 8) dX10_treeAt_1 rfl (by decide) h1 (fun c2 => ?_) (fun c2 => ?_)
  · replace hT := hTt c2
    refine g_iload_n (npc := 9) dX10_treeAt_8 rfl rfl rfl ?_
    obtain ⟨h3, hT⟩ := hT
    refine g_i2l (npc := 10) dX10_treeAt_9 rfl h3 ?_
    refine g_aload_n (npc := 11) dX10_treeAt_10 rfl rfl rfl ?_
    refine gf_Cg_69 (npc := 14) dX10_treeAt_11 rfl rfl ?_
    refine g_iconst (npc := 15) dX10_treeAt_14 rfl ?_
    refine g_iconst (npc := 16) dX10_treeAt_15 rfl ?_
    obtain ⟨Q4, h5, hT⟩ := hT
    refine iv_Cg_241 (npc := 19) dX10_treeAt_16 rfl rfl (Nat.le_of_ble_eq_true rfl) (by decide) (by decide) h5 (fun r7 s6 e8 => ?_)
    replace hT := hT r7 s6 e8
    obtain ⟨h9, hTt, hTf⟩ := hT
    refine g_llt (pc2 := 20) (npc := 23) (tgt := 27) dX10_treeAt_19 rfl dX10_treeAt_20 rfl (by decide) h9 (fun c10 => ?_) (fun c10 => ?_)
    · replace hT := hTt c10
      refine g_aload_n (npc := 28) dX10_treeAt_27 rfl rfl rfl ?_
      refine gf_Cg_69 (npc := 31) dX10_treeAt_28 rfl rfl ?_
      refine g_iload_n (npc := 32) dX10_treeAt_31 rfl rfl rfl ?_
      obtain ⟨Q11, h12, hT⟩ := hT
      refine iv_Cg_276 (npc := 35) dX10_treeAt_32 rfl rfl (Nat.le_of_ble_eq_true rfl) (by decide) (by decide) h12 (fun r14 s13 e15 => ?_)
      replace hT := hT r14 s13 e15
      exact g_iret dX10_treeAt_35 rfl rfl (by decide) ⟨_, rfl, hT⟩
    · replace hT := hTf (Int.not_lt.mp c10)
      refine g_sipush (npc := 26) (x := (-10007)) dX10_treeAt_23 rfl (by decide) ?_
      exact g_iret dX10_treeAt_26 rfl rfl (by decide) ⟨_, rfl, hT⟩
  · replace hT := hTf (Int.not_le.mp c2)
    refine g_sipush (npc := 7) (x := (-10002)) dX10_treeAt_4 rfl (by decide) ?_
    exact g_iret dX10_treeAt_7 rfl rfl (by decide) ⟨_, rfl, hT⟩
set_option maxRecDepth 20000 in
theorem e_Cg_burnt {n : Nat} {x1 : Int} {s : Sto} {Q : Int → Sto → Prop} (hT : ∃ Q1 : Int → Sto → Prop, K_Gr_hasNode n x1 s Q1 ∧ ∀ r4 s3, Q1 r4 s3 → (-2147483648 ≤ r4 ∧ r4 < 2147483648) ∧ ((¬ r4 = 0) → ∃ Q8 : Int → Sto → Prop, K_Bu_allBurn n 187 s3 Q8 ∧ ∀ r11 s10, Q8 r11 s10 → ∃ Q13 : Int → Sto → Prop, K_Bu_hasBurnt n x1 s10 Q13 ∧ ∀ r16 s15, Q13 r16 s15 → (-2147483648 ≤ r16 ∧ r16 < 2147483648) ∧ ((r16 = 0) → Q (-10007) s15) ∧ ((¬ r16 = 0) → (0 ≤ x1 ∧ x1 < 8) ∧ Q (s15 38 (Int.toNat x1)) s15)) ∧ ((r4 = 0) → Q (-10001) s3)) : K_Cg_burnt n x1 s Q := by
  refine Sp.body (by decide +kernel) (Nat.le_of_ble_eq_true rfl) ?_
  show Go (SL n) M_Cg_burnt (fI Q) 0 0 0 [(0, .ref 0), (1, iV x1)] [] s
  refine g_aload_n (npc := 1) dX10_burnt_0 rfl rfl rfl ?_
  refine gf_Cg_12 (npc := 4) dX10_burnt_1 rfl rfl ?_
  refine g_iload_n (npc := 5) dX10_burnt_4 rfl rfl rfl ?_
  obtain ⟨Q1, h2, hT⟩ := hT
  refine iv_Cg_105 (npc := 8) dX10_burnt_5 rfl rfl (Nat.le_of_ble_eq_true rfl) (by decide) (by decide) h2 (fun r4 s3 e5 => ?_)
  replace hT := hT r4 s3 e5
  obtain ⟨h6, hTt, hTf⟩ := hT
  refine g_if_ne (npc := 11) (tgt := 15) dX10_burnt_8 rfl (by decide) h6 (fun c7 => ?_) (fun c7 => ?_)
  · replace hT := hTt c7
    refine g_aload_n (npc := 16) dX10_burnt_15 rfl rfl rfl ?_
    refine gf_Cg_44 (npc := 19) dX10_burnt_16 rfl rfl ?_
    refine g_aload_n (npc := 20) dX10_burnt_19 rfl rfl rfl ?_
    refine gf_Cg_80 (npc := 23) dX10_burnt_20 rfl rfl ?_
    obtain ⟨Q8, h9, hT⟩ := hT
    refine iv_Cg_216 (npc := 26) dX10_burnt_23 rfl rfl (Nat.le_of_ble_eq_true rfl) (by decide) (by decide) h9 (fun r11 s10 e12 => ?_)
    replace hT := hT r11 s10 e12
    refine g_pop (npc := 27) dX10_burnt_26 rfl rfl ?_
    refine g_aload_n (npc := 28) dX10_burnt_27 rfl rfl rfl ?_
    refine gf_Cg_44 (npc := 31) dX10_burnt_28 rfl rfl ?_
    refine g_iload_n (npc := 32) dX10_burnt_31 rfl rfl rfl ?_
    obtain ⟨Q13, h14, hT⟩ := hT
    refine iv_Cg_219 (npc := 35) dX10_burnt_32 rfl rfl (Nat.le_of_ble_eq_true rfl) (by decide) (by decide) h14 (fun r16 s15 e17 => ?_)
    replace hT := hT r16 s15 e17
    obtain ⟨h18, hTt, hTf⟩ := hT
    refine g_if_eq (npc := 38) (tgt := 50) dX10_burnt_35 rfl (by decide) h18 (fun c19 => ?_) (fun c19 => ?_)
    · replace hT := hTt c19
      refine g_sipush (npc := 53) (x := (-10007)) dX10_burnt_50 rfl (by decide) ?_
      exact g_iret dX10_burnt_53 rfl rfl (by decide) ⟨_, rfl, hT⟩
    · replace hT := hTf c19
      refine g_aload_n (npc := 39) dX10_burnt_38 rfl rfl rfl ?_
      refine gf_Cg_44 (npc := 42) dX10_burnt_39 rfl rfl ?_
      refine gf_Cg_222 (npc := 45) dX10_burnt_42 rfl rfl ?_
      refine g_iload_n (npc := 46) dX10_burnt_45 rfl rfl rfl ?_
      obtain ⟨h20, hT⟩ := hT
      refine g_iald (npc := 47) dX10_burnt_46 rfl (arSL arSC_38) h20 ?_
      refine g_goto (npc := 53) dX10_burnt_47 (by decide) ?_
      exact g_iret dX10_burnt_53 rfl rfl (by decide) ⟨_, rfl, hT⟩
  · replace hT := hTf (Decidable.not_not.mp c7)
    refine g_sipush (npc := 14) (x := (-10001)) dX10_burnt_11 rfl (by decide) ?_
    exact g_iret dX10_burnt_14 rfl rfl (by decide) ⟨_, rfl, hT⟩
set_option maxRecDepth 20000 in
theorem e_Cg_load {n : Nat} {x1 : Int} {s : Sto} {Q : Int → Sto → Prop} (hT : ∃ Q1 : Int → Sto → Prop, K_Sl_has n x1 s Q1 ∧ ∀ r4 s3, Q1 r4 s3 → (-2147483648 ≤ r4 ∧ r4 < 2147483648) ∧ ((¬ r4 = 0) → ∃ Q8 : Int → Sto → Prop, K_Sl_isEmpty n x1 s3 Q8 ∧ ∀ r11 s10, Q8 r11 s10 → (-2147483648 ≤ r11 ∧ r11 < 2147483648) ∧ ((r11 = 0) → ∃ Q15 : Sto → Prop, K_Hi_record n 187 s10 Q15 ∧ ∀ s17, Q15 s17 → ∃ Q20 : Sto → Prop, K_Sl_copyTo n x1 187 s17 Q20 ∧ ∀ s22, Q20 s22 → ∃ Q25 : Int → Sto → Prop, K_Cg_sumOf n 187 s22 Q25 ∧ ∀ r28 s27, Q25 r28 s27 → Q r28 s27) ∧ ((¬ r11 = 0) → Q (-10004) s10)) ∧ ((r4 = 0) → Q (-10001) s3)) : K_Cg_load n x1 s Q := by
  refine Sp.body (by decide +kernel) (Nat.le_of_ble_eq_true rfl) ?_
  show Go (SL n) M_Cg_load (fI Q) 0 0 0 [(0, .ref 0), (1, iV x1)] [] s
  refine g_aload_n (npc := 1) dX10_load_0 rfl rfl rfl ?_
  refine gf_Cg_35 (npc := 4) dX10_load_1 rfl rfl ?_
  refine g_iload_n (npc := 5) dX10_load_4 rfl rfl rfl ?_
  obtain ⟨Q1, h2, hT⟩ := hT
  refine iv_Cg_228 (npc := 8) dX10_load_5 rfl rfl (Nat.le_of_ble_eq_true rfl) (by decide) (by decide) h2 (fun r4 s3 e5 => ?_)
  replace hT := hT r4 s3 e5
  obtain ⟨h6, hTt, hTf⟩ := hT
  refine g_if_ne (npc := 11) (tgt := 15) dX10_load_8 rfl (by decide) h6 (fun c7 => ?_) (fun c7 => ?_)
  · replace hT := hTt c7
    refine g_aload_n (npc := 16) dX10_load_15 rfl rfl rfl ?_
    refine gf_Cg_35 (npc := 19) dX10_load_16 rfl rfl ?_
    refine g_iload_n (npc := 20) dX10_load_19 rfl rfl rfl ?_
    obtain ⟨Q8, h9, hT⟩ := hT
    refine iv_Cg_231 (npc := 23) dX10_load_20 rfl rfl (Nat.le_of_ble_eq_true rfl) (by decide) (by decide) h9 (fun r11 s10 e12 => ?_)
    replace hT := hT r11 s10 e12
    obtain ⟨h13, hTt, hTf⟩ := hT
    refine g_if_eq (npc := 26) (tgt := 30) dX10_load_23 rfl (by decide) h13 (fun c14 => ?_) (fun c14 => ?_)
    · replace hT := hTt c14
      refine g_aload_n (npc := 31) dX10_load_30 rfl rfl rfl ?_
      refine gf_Cg_28 (npc := 34) dX10_load_31 rfl rfl ?_
      refine g_aload_n (npc := 35) dX10_load_34 rfl rfl rfl ?_
      refine gf_Cg_80 (npc := 38) dX10_load_35 rfl rfl ?_
      obtain ⟨Q15, h16, hT⟩ := hT
      refine iv_Cg_174 (npc := 41) dX10_load_38 rfl rfl (Nat.le_of_ble_eq_true rfl) (by decide) (by decide) h16 (fun s17 e19 => ?_)
      replace hT := hT s17 e19
      refine g_aload_n (npc := 42) dX10_load_41 rfl rfl rfl ?_
      refine gf_Cg_35 (npc := 45) dX10_load_42 rfl rfl ?_
      refine g_iload_n (npc := 46) dX10_load_45 rfl rfl rfl ?_
      refine g_aload_n (npc := 47) dX10_load_46 rfl rfl rfl ?_
      refine gf_Cg_80 (npc := 50) dX10_load_47 rfl rfl ?_
      obtain ⟨Q20, h21, hT⟩ := hT
      refine iv_Cg_238 (npc := 53) dX10_load_50 rfl rfl (Nat.le_of_ble_eq_true rfl) (by decide) (by decide) h21 (fun s22 e24 => ?_)
      replace hT := hT s22 e24
      refine g_aload_n (npc := 54) dX10_load_53 rfl rfl rfl ?_
      refine gf_Cg_80 (npc := 57) dX10_load_54 rfl rfl ?_
      obtain ⟨Q25, h26, hT⟩ := hT
      refine iv_Cg_151 (npc := 60) dX10_load_57 rfl rfl (Nat.le_of_ble_eq_true rfl) (by decide) (by decide) h26 (fun r28 s27 e29 => ?_)
      replace hT := hT r28 s27 e29
      exact g_iret dX10_load_60 rfl rfl (by decide) ⟨_, rfl, hT⟩
    · replace hT := hTf c14
      refine g_sipush (npc := 29) (x := (-10004)) dX10_load_26 rfl (by decide) ?_
      exact g_iret dX10_load_29 rfl rfl (by decide) ⟨_, rfl, hT⟩
  · replace hT := hTf (Decidable.not_not.mp c7)
    refine g_sipush (npc := 14) (x := (-10001)) dX10_load_11 rfl (by decide) ?_
    exact g_iret dX10_load_14 rfl rfl (by decide) ⟨_, rfl, hT⟩
