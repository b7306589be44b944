/-! blocks of ChipGame$Graph -/
theorem dX2_clear_0 : decode cX2_clear 0 = .ok (.aload_n 0, 1) := by decide +kernel
theorem dX2_clear_1 : decode cX2_clear 1 = .ok (.iload_n 1, 1) := by decide +kernel
theorem dX2_clear_2 : decode cX2_clear 2 = .ok (.putfield 9, 3) := by decide +kernel
theorem dX2_clear_5 : decode cX2_clear 5 = .ok (.aload_n 0, 1) := by decide +kernel
theorem dX2_clear_6 : decode cX2_clear 6 = .ok (.iconst 0, 1) := by decide +kernel
theorem dX2_clear_7 : decode cX2_clear 7 = .ok (.putfield 15, 3) := by decide +kernel
theorem dX2_clear_10 : decode cX2_clear 10 = .ok (.aload_n 0, 1) := by decide +kernel
theorem dX2_clear_11 : decode cX2_clear 11 = .ok (.iconst 0, 1) := by decide +kernel
theorem dX2_clear_12 : decode cX2_clear 12 = .ok (.putfield 18, 3) := by decide +kernel
theorem dX2_clear_15 : decode cX2_clear 15 = .ok (.iconst 0, 1) := by decide +kernel
theorem dX2_clear_16 : decode cX2_clear 16 = .ok (.istore_n 2, 1) := by decide +kernel
theorem dX2_clear_17 : decode cX2_clear 17 = .ok (.iload_n 2, 1) := by decide +kernel
theorem dX2_clear_18 : decode cX2_clear 18 = .ok (.bipush 8, 2) := by decide +kernel
theorem dX2_clear_20 : decode cX2_clear 20 = .ok (.if_icmp .ge 39, 3) := by decide +kernel
theorem dX2_clear_23 : decode cX2_clear 23 = .ok (.aload_n 0, 1) := by decide +kernel
theorem dX2_clear_24 : decode cX2_clear 24 = .ok (.getfield 33, 3) := by decide +kernel
theorem dX2_clear_27 : decode cX2_clear 27 = .ok (.iload_n 2, 1) := by decide +kernel
theorem dX2_clear_28 : decode cX2_clear 28 = .ok (.iconst 0, 1) := by decide +kernel
theorem dX2_clear_29 : decode cX2_clear 29 = .ok (.iastore, 1) := by decide +kernel
theorem dX2_clear_30 : decode cX2_clear 30 = .ok (.iconst 0, 1) := by decide +kernel
theorem dX2_clear_31 : decode cX2_clear 31 = .ok (.istore_n 3, 1) := by decide +kernel
theorem dX2_clear_32 : decode cX2_clear 32 = .ok (.iload_n 3, 1) := by decide +kernel
theorem dX2_clear_33 : decode cX2_clear 33 = .ok (.bipush 8, 2) := by decide +kernel
theorem dX2_clear_35 : decode cX2_clear 35 = .ok (.if_icmp .ge 18, 3) := by decide +kernel
theorem dX2_clear_38 : decode cX2_clear 38 = .ok (.aload_n 0, 1) := by decide +kernel
theorem dX2_clear_39 : decode cX2_clear 39 = .ok (.getfield 30, 3) := by decide +kernel
theorem dX2_clear_42 : decode cX2_clear 42 = .ok (.iload_n 2, 1) := by decide +kernel
theorem dX2_clear_43 : decode cX2_clear 43 = .ok (.aaload, 1) := by decide +kernel
theorem dX2_clear_44 : decode cX2_clear 44 = .ok (.iload_n 3, 1) := by decide +kernel
theorem dX2_clear_45 : decode cX2_clear 45 = .ok (.iconst 0, 1) := by decide +kernel
theorem dX2_clear_46 : decode cX2_clear 46 = .ok (.iastore, 1) := by decide +kernel
theorem dX2_clear_47 : decode cX2_clear 47 = .ok (.iinc 3 1, 3) := by decide +kernel
theorem dX2_clear_50 : decode cX2_clear 50 = .ok (.goto (-18), 3) := by decide +kernel
theorem dX2_clear_53 : decode cX2_clear 53 = .ok (.iinc 2 1, 3) := by decide +kernel
theorem dX2_clear_56 : decode cX2_clear 56 = .ok (.goto (-39), 3) := by decide +kernel
theorem dX2_clear_59 : decode cX2_clear 59 = .ok (.return_, 1) := by decide +kernel
theorem dX2_hasNode_0 : decode cX2_hasNode 0 = .ok (.iload_n 1, 1) := by decide +kernel
theorem dX2_hasNode_1 : decode cX2_hasNode 1 = .ok (.ifCond .lt 21, 3) := by decide +kernel
theorem dX2_hasNode_4 : decode cX2_hasNode 4 = .ok (.iload_n 1, 1) := by decide +kernel
theorem dX2_hasNode_5 : decode cX2_hasNode 5 = .ok (.aload_n 0, 1) := by decide +kernel
theorem dX2_hasNode_6 : decode cX2_hasNode 6 = .ok (.getfield 9, 3) := by decide +kernel
theorem dX2_hasNode_9 : decode cX2_hasNode 9 = .ok (.if_icmp .ge 13, 3) := by decide +kernel
theorem dX2_hasNode_12 : decode cX2_hasNode 12 = .ok (.iload_n 1, 1) := by decide +kernel
theorem dX2_hasNode_13 : decode cX2_hasNode 13 = .ok (.bipush 8, 2) := by decide +kernel
theorem dX2_hasNode_15 : decode cX2_hasNode 15 = .ok (.if_icmp .ge 7, 3) := by decide +kernel
theorem dX2_hasNode_18 : decode cX2_hasNode 18 = .ok (.iconst 1, 1) := by decide +kernel
theorem dX2_hasNode_19 : decode cX2_hasNode 19 = .ok (.goto 4, 3) := by decide +kernel
theorem dX2_hasNode_22 : decode cX2_hasNode 22 = .ok (.iconst 0, 1) := by decide +kernel
theorem dX2_hasNode_23 : decode cX2_hasNode 23 = .ok (.ireturn, 1) := by decide +kernel
theorem dX2_hasChipsAt_0 : decode cX2_hasChipsAt 0 = .ok (.aload_n 0, 1) := by decide +kernel
theorem dX2_hasChipsAt_1 : decode cX2_hasChipsAt 1 = .ok (.iload_n 1, 1) := by decide +kernel
theorem dX2_hasChipsAt_2 : decode cX2_hasChipsAt 2 = .ok (.invokevirtual 39, 3) := by decide +kernel
theorem dX2_hasChipsAt_5 : decode cX2_hasChipsAt 5 = .ok (.ifCond .eq 15, 3) := by decide +kernel
theorem dX2_hasChipsAt_8 : decode cX2_hasChipsAt 8 = .ok (.iload_n 1, 1) := by decide +kernel
theorem dX2_hasChipsAt_9 : decode cX2_hasChipsAt 9 = .ok (.aload_n 0, 1) := by decide +kernel
theorem dX2_hasChipsAt_10 : decode cX2_hasChipsAt 10 = .ok (.getfield 18, 3) := by decide +kernel
theorem dX2_hasChipsAt_13 : decode cX2_hasChipsAt 13 = .ok (.if_icmp .eq 7, 3) := by decide +kernel
theorem dX2_hasChipsAt_16 : decode cX2_hasChipsAt 16 = .ok (.iconst 1, 1) := by decide +kernel
theorem dX2_hasChipsAt_17 : decode cX2_hasChipsAt 17 = .ok (.goto 4, 3) := by decide +kernel
theorem dX2_hasChipsAt_20 : decode cX2_hasChipsAt 20 = .ok (.iconst 0, 1) := by decide +kernel
theorem dX2_hasChipsAt_21 : decode cX2_hasChipsAt 21 = .ok (.ireturn, 1) := by decide +kernel
theorem dX2_hasEdge_0 : decode cX2_hasEdge 0 = .ok (.iload_n 1, 1) := by decide +kernel
theorem dX2_hasEdge_1 : decode cX2_hasEdge 1 = .ok (.ifCond .lt 21, 3) := by decide +kernel
theorem dX2_hasEdge_4 : decode cX2_hasEdge 4 = .ok (.iload_n 1, 1) := by decide +kernel
theorem dX2_hasEdge_5 : decode cX2_hasEdge 5 = .ok (.aload_n 0, 1) := by decide +kernel
theorem dX2_hasEdge_6 : decode cX2_hasEdge 6 = .ok (.getfield 15, 3) := by decide +kernel
theorem dX2_hasEdge_9 : decode cX2_hasEdge 9 = .ok (.if_icmp .ge 13, 3) := by decide +kernel
theorem dX2_hasEdge_12 : decode cX2_hasEdge 12 = .ok (.iload_n 1, 1) := by decide +kernel
theorem dX2_hasEdge_13 : decode cX2_hasEdge 13 = .ok (.bipush 20, 2) := by decide +kernel
theorem dX2_hasEdge_15 : decode cX2_hasEdge 15 = .ok (.if_icmp .ge 7, 3) := by decide +kernel
theorem dX2_hasEdge_18 : decode cX2_hasEdge 18 = .ok (.iconst 1, 1) := by decide +kernel
theorem dX2_hasEdge_19 : decode cX2_hasEdge 19 = .ok (.goto 4, 3) := by decide +kernel
theorem dX2_hasEdge_22 : decode cX2_hasEdge 22 = .ok (.iconst 0, 1) := by decide +kernel
theorem dX2_hasEdge_23 : decode cX2_hasEdge 23 = .ok (.ireturn, 1) := by decide +kernel
theorem dX2_degreeOf_0 : decode cX2_degreeOf 0 = .ok (.aload_n 0, 1) := by decide +kernel
theorem dX2_degreeOf_1 : decode cX2_degreeOf 1 = .ok (.iload_n 1, 1) := by decide +kernel
theorem dX2_degreeOf_2 : decode cX2_degreeOf 2 = .ok (.invokevirtual 39, 3) := by decide +kernel
theorem dX2_degreeOf_5 : decode cX2_degreeOf 5 = .ok (.ifCond .eq 12, 3) := by decide +kernel
theorem dX2_degreeOf_8 : decode cX2_degreeOf 8 = .ok (.aload_n 0, 1) := by decide +kernel
theorem dX2_degreeOf_9 : decode cX2_degreeOf 9 = .ok (.getfield 33, 3) := by decide +kernel
theorem dX2_degreeOf_12 : decode cX2_degreeOf 12 = .ok (.iload_n 1, 1) := by decide +kernel
theorem dX2_degreeOf_13 : decode cX2_degreeOf 13 = .ok (.iaload, 1) := by decide +kernel
theorem dX2_degreeOf_14 : decode cX2_degreeOf 14 = .ok (.goto 4, 3) := by decide +kernel
theorem dX2_degreeOf_17 : decode cX2_degreeOf 17 = .ok (.iconst 0, 1) := by decide +kernel
theorem dX2_degreeOf_18 : decode cX2_degreeOf 18 = .ok (.ireturn, 1) := by decide +kernel
theorem dX2_append_0 : decode cX2_append 0 = .ok (.aload_n 0, 1) := by decide +kernel
theorem dX2_append_1 : decode cX2_append 1 = .ok (.iload_n 1, 1) := by decide +kernel
theorem dX2_append_2 : decode cX2_append 2 = .ok (.invokevirtual 39, 3) := by decide +kernel
theorem dX2_append_5 : decode cX2_append 5 = .ok (.ifCond .eq 27, 3) := by decide +kernel
theorem dX2_append_8 : decode cX2_append 8 = .ok (.aload_n 0, 1) := by decide +kernel
theorem dX2_append_9 : decode cX2_append 9 = .ok (.iload_n 2, 1) := by decide +kernel
theorem dX2_append_10 : decode cX2_append 10 = .ok (.invokevirtual 39, 3) := by decide +kernel
theorem dX2_append_13 : decode cX2_append 13 = .ok (.ifCond .eq 19, 3) := by decide +kernel
theorem dX2_append_16 : decode cX2_append 16 = .ok (.aload_n 0, 1) := by decide +kernel
theorem dX2_append_17 : decode cX2_append 17 = .ok (.getfield 15, 3) := by decide +kernel
theorem dX2_append_20 : decode cX2_append 20 = .ok (.ifCond .lt 12, 3) := by decide +kernel
theorem dX2_append_23 : decode cX2_append 23 = .ok (.aload_n 0, 1) := by decide +kernel
theorem dX2_append_24 : decode cX2_append 24 = .ok (.getfield 15, 3) := by decide +kernel
theorem dX2_append_27 : decode cX2_append 27 = .ok (.bipush 20, 2) := by decide +kernel
theorem dX2_append_29 : decode cX2_append 29 = .ok (.if_icmp .lt 4, 3) := by decide +kernel
theorem dX2_append_32 : decode cX2_append 32 = .ok (.return_, 1) := by decide +kernel
theorem dX2_append_33 : decode cX2_append 33 = .ok (.aload_n 0, 1) := by decide +kernel
theorem dX2_append_34 : decode cX2_append 34 = .ok (.getfield 21, 3) := by decide +kernel
theorem dX2_append_37 : decode cX2_append 37 = .ok (.aload_n 0, 1) := by decide +kernel
theorem dX2_append_38 : decode cX2_append 38 = .ok (.getfield 15, 3) := by decide +kernel
theorem dX2_append_41 : decode cX2_append 41 = .ok (.iload_n 1, 1) := by decide +kernel
theorem dX2_append_42 : decode cX2_append 42 = .ok (.iastore, 1) := by decide +kernel
theorem dX2_append_43 : decode cX2_append 43 = .ok (.aload_n 0, 1) := by decide +kernel
theorem dX2_append_44 : decode cX2_append 44 = .ok (.getfield 25, 3) := by decide +kernel
theorem dX2_append_47 : decode cX2_append 47 = .ok (.aload_n 0, 1) := by decide +kernel
theorem dX2_append_48 : decode cX2_append 48 = .ok (.getfield 15, 3) := by decide +kernel
theorem dX2_append_51 : decode cX2_append 51 = .ok (.iload_n 2, 1) := by decide +kernel
theorem dX2_append_52 : decode cX2_append 52 = .ok (.iastore, 1) := by decide +kernel
theorem dX2_append_53 : decode cX2_append 53 = .ok (.aload_n 0, 1) := by decide +kernel
theorem dX2_append_54 : decode cX2_append 54 = .ok (.dup, 1) := by decide +kernel
theorem dX2_append_55 : decode cX2_append 55 = .ok (.getfield 15, 3) := by decide +kernel
theorem dX2_append_58 : decode cX2_append 58 = .ok (.iconst 1, 1) := by decide +kernel
theorem dX2_append_59 : decode cX2_append 59 = .ok (.iadd, 1) := by decide +kernel
theorem dX2_append_60 : decode cX2_append 60 = .ok (.putfield 15, 3) := by decide +kernel
theorem dX2_append_63 : decode cX2_append 63 = .ok (.aload_n 0, 1) := by decide +kernel
theorem dX2_append_64 : decode cX2_append 64 = .ok (.iload_n 1, 1) := by decide +kernel
theorem dX2_append_65 : decode cX2_append 65 = .ok (.iload_n 2, 1) := by decide +kernel
theorem dX2_append_66 : decode cX2_append 66 = .ok (.iconst 1, 1) := by decide +kernel
theorem dX2_append_67 : decode cX2_append 67 = .ok (.invokevirtual 43, 3) := by decide +kernel
theorem dX2_append_70 : decode cX2_append 70 = .ok (.return_, 1) := by decide +kernel
theorem dX2_drop_0 : decode cX2_drop 0 = .ok (.aload_n 0, 1) := by decide +kernel
theorem dX2_drop_1 : decode cX2_drop 1 = .ok (.iload_n 1, 1) := by decide +kernel
theorem dX2_drop_2 : decode cX2_drop 2 = .ok (.invokevirtual 47, 3) := by decide +kernel
theorem dX2_drop_5 : decode cX2_drop 5 = .ok (.ifCond .ne 4, 3) := by decide +kernel
theorem dX2_drop_8 : decode cX2_drop 8 = .ok (.return_, 1) := by decide +kernel
theorem dX2_drop_9 : decode cX2_drop 9 = .ok (.aload_n 0, 1) := by decide +kernel
theorem dX2_drop_10 : decode cX2_drop 10 = .ok (.aload_n 0, 1) := by decide +kernel
theorem dX2_drop_11 : decode cX2_drop 11 = .ok (.getfield 21, 3) := by decide +kernel
theorem dX2_drop_14 : decode cX2_drop 14 = .ok (.iload_n 1, 1) := by decide +kernel
theorem dX2_drop_15 : decode cX2_drop 15 = .ok (.iaload, 1) := by decide +kernel
theorem dX2_drop_16 : decode cX2_drop 16 = .ok (.aload_n 0, 1) := by decide +kernel
theorem dX2_drop_17 : decode cX2_drop 17 = .ok (.getfield 25, 3) := by decide +kernel
theorem dX2_drop_20 : decode cX2_drop 20 = .ok (.iload_n 1, 1) := by decide +kernel
theorem dX2_drop_21 : decode cX2_drop 21 = .ok (.iaload, 1) := by decide +kernel
theorem dX2_drop_22 : decode cX2_drop 22 = .ok (.iconst (-1), 1) := by decide +kernel
theorem dX2_drop_23 : decode cX2_drop 23 = .ok (.invokevirtual 43, 3) := by decide +kernel
theorem dX2_drop_26 : decode cX2_drop 26 = .ok (.iload_n 1, 1) := by decide +kernel
theorem dX2_drop_27 : decode cX2_drop 27 = .ok (.istore_n 2, 1) := by decide +kernel
theorem dX2_drop_28 : decode cX2_drop 28 = .ok (.iload_n 2, 1) := by decide +kernel
theorem dX2_drop_29 : decode cX2_drop 29 = .ok (.iconst 1, 1) := by decide +kernel
theorem dX2_drop_30 : decode cX2_drop 30 = .ok (.iadd, 1) := by decide +kernel
theorem dX2_drop_31 : decode cX2_drop 31 = .ok (.aload_n 0, 1) := by decide +kernel
theorem dX2_drop_32 : decode cX2_drop 32 = .ok (.getfield 15, 3) := by decide +kernel
theorem dX2_drop_35 : decode cX2_drop 35 = .ok (.if_icmp .ge 37, 3) := by decide +kernel
theorem dX2_drop_38 : decode cX2_drop 38 = .ok (.aload_n 0, 1) := by decide +kernel
theorem dX2_drop_39 : decode cX2_drop 39 = .ok (.getfield 21, 3) := by decide +kernel
theorem dX2_drop_42 : decode cX2_drop 42 = .ok (.iload_n 2, 1) := by decide +kernel
theorem dX2_drop_43 : decode cX2_drop 43 = .ok (.aload_n 0, 1) := by decide +kernel
theorem dX2_drop_44 : decode cX2_drop 44 = .ok (.getfield 21, 3) := by decide +kernel
theorem dX2_drop_47 : decode cX2_drop 47 = .ok (.iload_n 2, 1) := by decide +kernel
theorem dX2_drop_48 : decode cX2_drop 48 = .ok (.iconst 1, 1) := by decide +kernel
theorem dX2_drop_49 : decode cX2_drop 49 = .ok (.iadd, 1) := by decide +kernel
theorem dX2_drop_50 : decode cX2_drop 50 = .ok (.iaload, 1) := by decide +kernel
theorem dX2_drop_51 : decode cX2_drop 51 = .ok (.iastore, 1) := by decide +kernel
theorem dX2_drop_52 : decode cX2_drop 52 = .ok (.aload_n 0, 1) := by decide +kernel
theorem dX2_drop_53 : decode cX2_drop 53 = .ok (.getfield 25, 3) := by decide +kernel
theorem dX2_drop_56 : decode cX2_drop 56 = .ok (.iload_n 2, 1) := by decide +kernel
theorem dX2_drop_57 : decode cX2_drop 57 = .ok (.aload_n 0, 1) := by decide +kernel
theorem dX2_drop_58 : decode cX2_drop 58 = .ok (.getfield 25, 3) := by decide +kernel
theorem dX2_drop_61 : decode cX2_drop 61 = .ok (.iload_n 2, 1) := by decide +kernel
theorem dX2_drop_62 : decode cX2_drop 62 = .ok (.iconst 1, 1) := by decide +kernel
theorem dX2_drop_63 : decode cX2_drop 63 = .ok (.iadd, 1) := by decide +kernel
theorem dX2_drop_64 : decode cX2_drop 64 = .ok (.iaload, 1) := by decide +kernel
theorem dX2_drop_65 : decode cX2_drop 65 = .ok (.iastore, 1) := by decide +kernel
theorem dX2_drop_66 : decode cX2_drop 66 = .ok (.iinc 2 1, 3) := by decide +kernel
theorem dX2_drop_69 : decode cX2_drop 69 = .ok (.goto (-41), 3) := by decide +kernel
theorem dX2_drop_72 : decode cX2_drop 72 = .ok (.aload_n 0, 1) := by decide +kernel
theorem dX2_drop_73 : decode cX2_drop 73 = .ok (.dup, 1) := by decide +kernel
theorem dX2_drop_74 : decode cX2_drop 74 = .ok (.getfield 15, 3) := by decide +kernel
theorem dX2_drop_77 : decode cX2_drop 77 = .ok (.iconst 1, 1) := by decide +kernel
theorem dX2_drop_78 : decode cX2_drop 78 = .ok (.isub, 1) := by decide +kernel
theorem dX2_drop_79 : decode cX2_drop 79 = .ok (.putfield 15, 3) := by decide +kernel
theorem dX2_drop_82 : decode cX2_drop 82 = .ok (.return_, 1) := by decide +kernel
theorem dX2_countJoining_0 : decode cX2_countJoining 0 = .ok (.aload_n 0, 1) := by decide +kernel
theorem dX2_countJoining_1 : decode cX2_countJoining 1 = .ok (.iload_n 1, 1) := by decide +kernel
theorem dX2_countJoining_2 : decode cX2_countJoining 2 = .ok (.invokevirtual 39, 3) := by decide +kernel
theorem dX2_countJoining_5 : decode cX2_countJoining 5 = .ok (.ifCond .eq 11, 3) := by decide +kernel
theorem dX2_countJoining_8 : decode cX2_countJoining 8 = .ok (.aload_n 0, 1) := by decide +kernel
theorem dX2_countJoining_9 : decode cX2_countJoining 9 = .ok (.iload_n 2, 1) := by decide +kernel
theorem dX2_countJoining_10 : decode cX2_countJoining 10 = .ok (.invokevirtual 39, 3) := by decide +kernel
theorem dX2_countJoining_13 : decode cX2_countJoining 13 = .ok (.ifCond .ne 4, 3) := by decide +kernel
theorem dX2_countJoining_16 : decode cX2_countJoining 16 = .ok (.return_, 1) := by decide +kernel
theorem dX2_countJoining_17 : decode cX2_countJoining 17 = .ok (.aload_n 0, 1) := by decide +kernel
theorem dX2_countJoining_18 : decode cX2_countJoining 18 = .ok (.getfield 30, 3) := by decide +kernel
theorem dX2_countJoining_21 : decode cX2_countJoining 21 = .ok (.iload_n 1, 1) := by decide +kernel
theorem dX2_countJoining_22 : decode cX2_countJoining 22 = .ok (.aaload, 1) := by decide +kernel
theorem dX2_countJoining_23 : decode cX2_countJoining 23 = .ok (.iload_n 2, 1) := by decide +kernel
theorem dX2_countJoining_24 : decode cX2_countJoining 24 = .ok (.dup2, 1) := by decide +kernel
theorem dX2_countJoining_25 : decode cX2_countJoining 25 = .ok (.iaload, 1) := by decide +kernel
theorem dX2_countJoining_26 : decode cX2_countJoining 26 = .ok (.iload_n 3, 1) := by decide +kernel
theorem dX2_countJoining_27 : decode cX2_countJoining 27 = .ok (.iadd, 1) := by decide +kernel
theorem dX2_countJoining_28 : decode cX2_countJoining 28 = .ok (.iastore, 1) := by decide +kernel
theorem dX2_countJoining_29 : decode cX2_countJoining 29 = .ok (.aload_n 0, 1) := by decide +kernel
theorem dX2_countJoining_30 : decode cX2_countJoining 30 = .ok (.getfield 30, 3) := by decide +kernel
theorem dX2_countJoining_33 : decode cX2_countJoining 33 = .ok (.iload_n 2, 1) := by decide +kernel
theorem dX2_countJoining_34 : decode cX2_countJoining 34 = .ok (.aaload, 1) := by decide +kernel
theorem dX2_countJoining_35 : decode cX2_countJoining 35 = .ok (.iload_n 1, 1) := by decide +kernel
theorem dX2_countJoining_36 : decode cX2_countJoining 36 = .ok (.dup2, 1) := by decide +kernel
theorem dX2_countJoining_37 : decode cX2_countJoining 37 = .ok (.iaload, 1) := by decide +kernel
theorem dX2_countJoining_38 : decode cX2_countJoining 38 = .ok (.iload_n 3, 1) := by decide +kernel
theorem dX2_countJoining_39 : decode cX2_countJoining 39 = .ok (.iadd, 1) := by decide +kernel
theorem dX2_countJoining_40 : decode cX2_countJoining 40 = .ok (.iastore, 1) := by decide +kernel
theorem dX2_countJoining_41 : decode cX2_countJoining 41 = .ok (.aload_n 0, 1) := by decide +kernel
theorem dX2_countJoining_42 : decode cX2_countJoining 42 = .ok (.getfield 33, 3) := by decide +kernel
theorem dX2_countJoining_45 : decode cX2_countJoining 45 = .ok (.iload_n 1, 1) := by decide +kernel
theorem dX2_countJoining_46 : decode cX2_countJoining 46 = .ok (.dup2, 1) := by decide +kernel
theorem dX2_countJoining_47 : decode cX2_countJoining 47 = .ok (.iaload, 1) := by decide +kernel
theorem dX2_countJoining_48 : decode cX2_countJoining 48 = .ok (.iload_n 3, 1) := by decide +kernel
theorem dX2_countJoining_49 : decode cX2_countJoining 49 = .ok (.iadd, 1) := by decide +kernel
theorem dX2_countJoining_50 : decode cX2_countJoining 50 = .ok (.iastore, 1) := by decide +kernel
theorem dX2_countJoining_51 : decode cX2_countJoining 51 = .ok (.aload_n 0, 1) := by decide +kernel
theorem dX2_countJoining_52 : decode cX2_countJoining 52 = .ok (.getfield 33, 3) := by decide +kernel
theorem dX2_countJoining_55 : decode cX2_countJoining 55 = .ok (.iload_n 2, 1) := by decide +kernel
theorem dX2_countJoining_56 : decode cX2_countJoining 56 = .ok (.dup2, 1) := by decide +kernel
theorem dX2_countJoining_57 : decode cX2_countJoining 57 = .ok (.iaload, 1) := by decide +kernel
theorem dX2_countJoining_58 : decode cX2_countJoining 58 = .ok (.iload_n 3, 1) := by decide +kernel
theorem dX2_countJoining_59 : decode cX2_countJoining 59 = .ok (.iadd, 1) := by decide +kernel
theorem dX2_countJoining_60 : decode cX2_countJoining 60 = .ok (.iastore, 1) := by decide +kernel
theorem dX2_countJoining_61 : decode cX2_countJoining 61 = .ok (.return_, 1) := by decide +kernel
theorem dX2_edgesAwayFromSink_0 : decode cX2_edgesAwayFromSink 0 = .ok (.aload_n 0, 1) := by decide +kernel
theorem dX2_edgesAwayFromSink_1 : decode cX2_edgesAwayFromSink 1 = .ok (.getfield 15, 3) := by decide +kernel
theorem dX2_edgesAwayFromSink_4 : decode cX2_edgesAwayFromSink 4 = .ok (.aload_n 0, 1) := by decide +kernel
theorem dX2_edgesAwayFromSink_5 : decode cX2_edgesAwayFromSink 5 = .ok (.aload_n 0, 1) := by decide +kernel
theorem dX2_edgesAwayFromSink_6 : decode cX2_edgesAwayFromSink 6 = .ok (.getfield 18, 3) := by decide +kernel
theorem dX2_edgesAwayFromSink_9 : decode cX2_edgesAwayFromSink 9 = .ok (.invokevirtual 50, 3) := by decide +kernel
theorem dX2_edgesAwayFromSink_12 : decode cX2_edgesAwayFromSink 12 = .ok (.isub, 1) := by decide +kernel
theorem dX2_edgesAwayFromSink_13 : decode cX2_edgesAwayFromSink 13 = .ok (.ireturn, 1) := by decide +kernel
theorem dX2_allEdges_0 : decode cX2_allEdges 0 = .ok (.iconst 1, 1) := by decide +kernel
theorem dX2_allEdges_1 : decode cX2_allEdges 1 = .ok (.aload_n 0, 1) := by decide +kernel
theorem dX2_allEdges_2 : decode cX2_allEdges 2 = .ok (.getfield 15, 3) := by decide +kernel
theorem dX2_allEdges_5 : decode cX2_allEdges 5 = .ok (.ishl, 1) := by decide +kernel
theorem dX2_allEdges_6 : decode cX2_allEdges 6 = .ok (.iconst 1, 1) := by decide +kernel
theorem dX2_allEdges_7 : decode cX2_allEdges 7 = .ok (.isub, 1) := by decide +kernel
theorem dX2_allEdges_8 : decode cX2_allEdges 8 = .ok (.ireturn, 1) := by decide +kernel
theorem dX2_isConnected_0 : decode cX2_isConnected 0 = .ok (.aload_n 0, 1) := by decide +kernel
theorem dX2_isConnected_1 : decode cX2_isConnected 1 = .ok (.aload_n 0, 1) := by decide +kernel
theorem dX2_isConnected_2 : decode cX2_isConnected 2 = .ok (.invokevirtual 54, 3) := by decide +kernel
theorem dX2_isConnected_5 : decode cX2_isConnected 5 = .ok (.invokevirtual 58, 3) := by decide +kernel
theorem dX2_isConnected_8 : decode cX2_isConnected 8 = .ok (.iconst 1, 1) := by decide +kernel
theorem dX2_isConnected_9 : decode cX2_isConnected 9 = .ok (.if_icmp .ne 7, 3) := by decide +kernel
theorem dX2_isConnected_12 : decode cX2_isConnected 12 = .ok (.iconst 1, 1) := by decide +kernel
theorem dX2_isConnected_13 : decode cX2_isConnected 13 = .ok (.goto 4, 3) := by decide +kernel
theorem dX2_isConnected_16 : decode cX2_isConnected 16 = .ok (.iconst 0, 1) := by decide +kernel
theorem dX2_isConnected_17 : decode cX2_isConnected 17 = .ok (.ireturn, 1) := by decide +kernel
theorem dX2_isSpanningTree_0 : decode cX2_isSpanningTree 0 = .ok (.iload_n 1, 1) := by decide +kernel
theorem dX2_isSpanningTree_1 : decode cX2_isSpanningTree 1 = .ok (.ifCond .lt 40, 3) := by decide +kernel
theorem dX2_isSpanningTree_4 : decode cX2_isSpanningTree 4 = .ok (.iload_n 1, 1) := by decide +kernel
theorem dX2_isSpanningTree_5 : decode cX2_isSpanningTree 5 = .ok (.aload_n 0, 1) := by decide +kernel
theorem dX2_isSpanningTree_6 : decode cX2_isSpanningTree 6 = .ok (.invokevirtual 54, 3) := by decide +kernel
theorem dX2_isSpanningTree_9 : decode cX2_isSpanningTree 9 = .ok (.iconst (-1), 1) := by decide +kernel
theorem dX2_isSpanningTree_10 : decode cX2_isSpanningTree 10 = .ok (.ixor, 1) := by decide +kernel
theorem dX2_isSpanningTree_11 : decode cX2_isSpanningTree 11 = .ok (.iand, 1) := by decide +kernel
theorem dX2_isSpanningTree_12 : decode cX2_isSpanningTree 12 = .ok (.ifCond .ne 29, 3) := by decide +kernel
theorem dX2_isSpanningTree_15 : decode cX2_isSpanningTree 15 = .ok (.iload_n 1, 1) := by decide +kernel
theorem dX2_isSpanningTree_16 : decode cX2_isSpanningTree 16 = .ok (.invokestatic 61, 3) := by decide +kernel
theorem dX2_isSpanningTree_19 : decode cX2_isSpanningTree 19 = .ok (.aload_n 0, 1) := by decide +kernel
theorem dX2_isSpanningTree_20 : decode cX2_isSpanningTree 20 = .ok (.getfield 9, 3) := by decide +kernel
theorem dX2_isSpanningTree_23 : decode cX2_isSpanningTree 23 = .ok (.iconst 1, 1) := by decide +kernel
theorem dX2_isSpanningTree_24 : decode cX2_isSpanningTree 24 = .ok (.isub, 1) := by decide +kernel
theorem dX2_isSpanningTree_25 : decode cX2_isSpanningTree 25 = .ok (.if_icmp .ne 16, 3) := by decide +kernel
theorem dX2_isSpanningTree_28 : decode cX2_isSpanningTree 28 = .ok (.aload_n 0, 1) := by decide +kernel
theorem dX2_isSpanningTree_29 : decode cX2_isSpanningTree 29 = .ok (.iload_n 1, 1) := by decide +kernel
theorem dX2_isSpanningTree_30 : decode cX2_isSpanningTree 30 = .ok (.invokevirtual 58, 3) := by decide +kernel
theorem dX2_isSpanningTree_33 : decode cX2_isSpanningTree 33 = .ok (.iconst 1, 1) := by decide +kernel
theorem dX2_isSpanningTree_34 : decode cX2_isSpanningTree 34 = .ok (.if_icmp .ne 7, 3) := by decide +kernel
theorem dX2_isSpanningTree_37 : decode cX2_isSpanningTree 37 = .ok (.iconst 1, 1) := by decide +kernel
theorem dX2_isSpanningTree_38 : decode cX2_isSpanningTree 38 = .ok (.goto 4, 3) := by decide +kernel
theorem dX2_isSpanningTree_41 : decode cX2_isSpanningTree 41 = .ok (.iconst 0, 1) := by decide +kernel
theorem dX2_isSpanningTree_42 : decode cX2_isSpanningTree 42 = .ok (.ireturn, 1) := by decide +kernel
theorem dX2_findParts_0 : decode cX2_findParts 0 = .ok (.iconst 0, 1) := by decide +kernel
theorem dX2_findParts_1 : decode cX2_findParts 1 = .ok (.istore_n 2, 1) := by decide +kernel
theorem dX2_findParts_2 : decode cX2_findParts 2 = .ok (.iload_n 2, 1) := by decide +kernel
theorem dX2_findParts_3 : decode cX2_findParts 3 = .ok (.aload_n 0, 1) := by decide +kernel
theorem dX2_findParts_4 : decode cX2_findParts 4 = .ok (.getfield 9, 3) := by decide +kernel
theorem dX2_findParts_7 : decode cX2_findParts 7 = .ok (.if_icmp .ge 16, 3) := by decide +kernel
theorem dX2_findParts_10 : decode cX2_findParts 10 = .ok (.aload_n 0, 1) := by decide +kernel
theorem dX2_findParts_11 : decode cX2_findParts 11 = .ok (.getfield 36, 3) := by decide +kernel
theorem dX2_findParts_14 : decode cX2_findParts 14 = .ok (.iload_n 2, 1) := by decide +kernel
theorem dX2_findParts_15 : decode cX2_findParts 15 = .ok (.iload_n 2, 1) := by decide +kernel
theorem dX2_findParts_16 : decode cX2_findParts 16 = .ok (.iastore, 1) := by decide +kernel
theorem dX2_findParts_17 : decode cX2_findParts 17 = .ok (.iinc 2 1, 3) := by decide +kernel
theorem dX2_findParts_20 : decode cX2_findParts 20 = .ok (.goto (-18), 3) := by decide +kernel
theorem dX2_findParts_23 : decode cX2_findParts 23 = .ok (.aload_n 0, 1) := by decide +kernel
theorem dX2_findParts_24 : decode cX2_findParts 24 = .ok (.getfield 9, 3) := by decide +kernel
theorem dX2_findParts_27 : decode cX2_findParts 27 = .ok (.istore_n 2, 1) := by decide +kernel
theorem dX2_findParts_28 : decode cX2_findParts 28 = .ok (.iconst 0, 1) := by decide +kernel
theorem dX2_findParts_29 : decode cX2_findParts 29 = .ok (.istore_n 3, 1) := by decide +kernel
theorem dX2_findParts_30 : decode cX2_findParts 30 = .ok (.iload_n 3, 1) := by decide +kernel
theorem dX2_findParts_31 : decode cX2_findParts 31 = .ok (.aload_n 0, 1) := by decide +kernel
theorem dX2_findParts_32 : decode cX2_findParts 32 = .ok (.getfield 15, 3) := by decide +kernel
theorem dX2_findParts_35 : decode cX2_findParts 35 = .ok (.if_icmp .ge 61, 3) := by decide +kernel
theorem dX2_findParts_38 : decode cX2_findParts 38 = .ok (.aload_n 0, 1) := by decide +kernel
theorem dX2_findParts_39 : decode cX2_findParts 39 = .ok (.getfield 36, 3) := by decide +kernel
theorem dX2_findParts_42 : decode cX2_findParts 42 = .ok (.aload_n 0, 1) := by decide +kernel
theorem dX2_findParts_43 : decode cX2_findParts 43 = .ok (.getfield 21, 3) := by decide +kernel
theorem dX2_findParts_46 : decode cX2_findParts 46 = .ok (.iload_n 3, 1) := by decide +kernel
theorem dX2_findParts_47 : decode cX2_findParts 47 = .ok (.iaload, 1) := by decide +kernel
theorem dX2_findParts_48 : decode cX2_findParts 48 = .ok (.iaload, 1) := by decide +kernel
theorem dX2_findParts_49 : decode cX2_findParts 49 = .ok (.istore 4, 2) := by decide +kernel
theorem dX2_findParts_51 : decode cX2_findParts 51 = .ok (.aload_n 0, 1) := by decide +kernel
theorem dX2_findParts_52 : decode cX2_findParts 52 = .ok (.getfield 36, 3) := by decide +kernel
theorem dX2_findParts_55 : decode cX2_findParts 55 = .ok (.aload_n 0, 1) := by decide +kernel
theorem dX2_findParts_56 : decode cX2_findParts 56 = .ok (.getfield 25, 3) := by decide +kernel
theorem dX2_findParts_59 : decode cX2_findParts 59 = .ok (.iload_n 3, 1) := by decide +kernel
theorem dX2_findParts_60 : decode cX2_findParts 60 = .ok (.iaload, 1) := by decide +kernel
theorem dX2_findParts_61 : decode cX2_findParts 61 = .ok (.iaload, 1) := by decide +kernel
theorem dX2_findParts_62 : decode cX2_findParts 62 = .ok (.istore 5, 2) := by decide +kernel
theorem dX2_findParts_64 : decode cX2_findParts 64 = .ok (.iload_n 1, 1) := by decide +kernel
theorem dX2_findParts_65 : decode cX2_findParts 65 = .ok (.iload_n 3, 1) := by decide +kernel
theorem dX2_findParts_66 : decode cX2_findParts 66 = .ok (.ishr, 1) := by decide +kernel
theorem dX2_findParts_67 : decode cX2_findParts 67 = .ok (.iconst 1, 1) := by decide +kernel
theorem dX2_findParts_68 : decode cX2_findParts 68 = .ok (.iand, 1) := by decide +kernel
theorem dX2_findParts_69 : decode cX2_findParts 69 = .ok (.ifCond .eq 21, 3) := by decide +kernel
theorem dX2_findParts_72 : decode cX2_findParts 72 = .ok (.iload 4, 2) := by decide +kernel
theorem dX2_findParts_74 : decode cX2_findParts 74 = .ok (.iload 5, 2) := by decide +kernel
theorem dX2_findParts_76 : decode cX2_findParts 76 = .ok (.if_icmp .eq 14, 3) := by decide +kernel
theorem dX2_findParts_79 : decode cX2_findParts 79 = .ok (.aload_n 0, 1) := by decide +kernel
theorem dX2_findParts_80 : decode cX2_findParts 80 = .ok (.iload 5, 2) := by decide +kernel
theorem dX2_findParts_82 : decode cX2_findParts 82 = .ok (.iload 4, 2) := by decide +kernel
theorem dX2_findParts_84 : decode cX2_findParts 84 = .ok (.invokevirtual 66, 3) := by decide +kernel
theorem dX2_findParts_87 : decode cX2_findParts 87 = .ok (.iinc 2 (-1), 3) := by decide +kernel
theorem dX2_findParts_90 : decode cX2_findParts 90 = .ok (.iinc 3 1, 3) := by decide +kernel
theorem dX2_findParts_93 : decode cX2_findParts 93 = .ok (.goto (-63), 3) := by decide +kernel
theorem dX2_findParts_96 : decode cX2_findParts 96 = .ok (.iload_n 2, 1) := by decide +kernel
theorem dX2_findParts_97 : decode cX2_findParts 97 = .ok (.ireturn, 1) := by decide +kernel
theorem dX2_relabel_0 : decode cX2_relabel 0 = .ok (.iconst 0, 1) := by decide +kernel
theorem dX2_relabel_1 : decode cX2_relabel 1 = .ok (.istore_n 3, 1) := by decide +kernel
theorem dX2_relabel_2 : decode cX2_relabel 2 = .ok (.iload_n 3, 1) := by decide +kernel
theorem dX2_relabel_3 : decode cX2_relabel 3 = .ok (.aload_n 0, 1) := by decide +kernel
theorem dX2_relabel_4 : decode cX2_relabel 4 = .ok (.getfield 9, 3) := by decide +kernel
theorem dX2_relabel_7 : decode cX2_relabel 7 = .ok (.if_icmp .ge 26, 3) := by decide +kernel
theorem dX2_relabel_10 : decode cX2_relabel 10 = .ok (.aload_n 0, 1) := by decide +kernel
theorem dX2_relabel_11 : decode cX2_relabel 11 = .ok (.getfield 36, 3) := by decide +kernel
theorem dX2_relabel_14 : decode cX2_relabel 14 = .ok (.iload_n 3, 1) := by decide +kernel
theorem dX2_relabel_15 : decode cX2_relabel 15 = .ok (.iaload, 1) := by decide +kernel
theorem dX2_relabel_16 : decode cX2_relabel 16 = .ok (.iload_n 1, 1) := by decide +kernel
theorem dX2_relabel_17 : decode cX2_relabel 17 = .ok (.if_icmp .ne 10, 3) := by decide +kernel
theorem dX2_relabel_20 : decode cX2_relabel 20 = .ok (.aload_n 0, 1) := by decide +kernel
theorem dX2_relabel_21 : decode cX2_relabel 21 = .ok (.getfield 36, 3) := by decide +kernel
theorem dX2_relabel_24 : decode cX2_relabel 24 = .ok (.iload_n 3, 1) := by decide +kernel
theorem dX2_relabel_25 : decode cX2_relabel 25 = .ok (.iload_n 2, 1) := by decide +kernel
theorem dX2_relabel_26 : decode cX2_relabel 26 = .ok (.iastore, 1) := by decide +kernel
theorem dX2_relabel_27 : decode cX2_relabel 27 = .ok (.iinc 3 1, 3) := by decide +kernel
theorem dX2_relabel_30 : decode cX2_relabel 30 = .ok (.goto (-28), 3) := by decide +kernel
theorem dX2_relabel_33 : decode cX2_relabel 33 = .ok (.return_, 1) := by decide +kernel
abbrev H_Gr_clear_17 (n : Nat) (Q : Sto → Prop) (x2 : Int) (s : Sto) : Prop := Go (SL n) M_Gr_clear (fV0 Q) 0 0 17 [(0, .ref 1), (2, iV x2)] [] s
abbrev H_Gr_clear_32 (n : Nat) (Q : Sto → Prop) (x2 : Int) (x3 : Int) (s : Sto) : Prop := Go (SL n) M_Gr_clear (fV0 Q) 0 0 32 [(0, .ref 1), (2, iV x2), (3, iV x3)] [] s
set_option maxRecDepth 20000 in
theorem b_Gr_clear_17 {n : Nat} {Q : Sto → Prop} {x2 : Int} {s : Sto} (hT : (-2147483648 ≤ x2 ∧ x2 < 2147483648) ∧ ((8 ≤ x2) → Q s) ∧ ((x2 < 8) → (0 ≤ x2 ∧ x2 < 8) ∧ ∀ s7, s7 = up s 13 (Int.toNat x2) 0 → H_Gr_clear_32 n Q x2 0 s7)) : H_Gr_clear_17 n Q x2 s := by
  refine g_iload_n (npc := 18) dX2_clear_17 rfl rfl rfl ?_
  refine g_bipush (npc := 20) (x := 8) dX2_clear_18 rfl (by decide) ?_
  obtain ⟨h4, hTt, hTf⟩ := hT
  refine g_icmp_ge (npc := 23) (tgt := 59) dX2_clear_20 rfl (by decide) ⟨h4, by decide, by decide⟩ (fun c5 => ?_) (fun c5 => ?_)
  · replace hT := hTt c5
    exact g_ret dX2_clear_59 rfl (by decide) ⟨rfl, hT⟩
  · replace hT := hTf (Int.not_le.mp c5)
    refine g_aload_n (npc := 24) dX2_clear_23 rfl rfl rfl ?_
    refine gf_Gr_33 (npc := 27) dX2_clear_24 rfl rfl ?_
    refine g_iload_n (npc := 28) dX2_clear_27 rfl rfl rfl ?_
    refine g_iconst (npc := 29) dX2_clear_28 rfl ?_
    obtain ⟨h6, hT⟩ := hT
    replace hT := hT _ rfl
    refine g_iast (npc := 30) dX2_clear_29 rfl (arSL arSC_13) h6  ?_
    refine g_iconst (npc := 31) dX2_clear_30 rfl ?_
    refine g_istore_n (npc := 32) (l' := [(0, .ref 1), (2, iV x2), (3, iV 0)]) dX2_clear_31 rfl rfl (by decide) rfl ?_
    exact hT
set_option maxRecDepth 20000 in
theorem b_Gr_clear_32 {n : Nat} {Q : Sto → Prop} {x2 : Int} {x3 : Int} {s : Sto} (hT : (-2147483648 ≤ x3 ∧ x3 < 2147483648) ∧ ((8 ≤ x3) → H_Gr_clear_17 n Q (x2 + 1) s) ∧ ((x3 < 8) → (0 ≤ x2 ∧ x2 < 8) ∧ (0 ≤ x3 ∧ x3 < 8) ∧ ∀ s12, s12 = up s (5 + Int.toNat x2) (Int.toNat x3) 0 → H_Gr_clear_32 n Q x2 (x3 + 1) s12)) : H_Gr_clear_32 n Q x2 x3 s := by
  refine g_iload_n (npc := 33) dX2_clear_32 rfl rfl rfl ?_
  refine g_bipush (npc := 35) (x := 8) dX2_clear_33 rfl (by decide) ?_
  obtain ⟨h8, hTt, hTf⟩ := hT
  refine g_icmp_ge (npc := 38) (tgt := 53) dX2_clear_35 rfl (by decide) ⟨h8, by decide, by decide⟩ (fun c9 => ?_) (fun c9 => ?_)
  · replace hT := hTt c9
    refine g_iinc (npc := 56) (y := (x2 + 1)) (l' := [(0, .ref 1), (2, iV (x2 + 1)), (3, iV x3)]) dX2_clear_53 rfl (by decide) rfl (by omega) rfl ?_
    refine g_goto (npc := 17) dX2_clear_56 (by decide) ?_
    refine Go.lsub [0, 1] rfl ?_
    exact hT
  · replace hT := hTf (Int.not_le.mp c9)
    refine g_aload_n (npc := 39) dX2_clear_38 rfl rfl rfl ?_
    refine gf_Gr_30 (npc := 42) dX2_clear_39 rfl rfl ?_
    refine g_iload_n (npc := 43) dX2_clear_42 rfl rfl rfl ?_
    obtain ⟨h10, hT⟩ := hT
    refine g_aald5 (npc := 44) dX2_clear_43 rfl (arSL arSC_4) h10 (frSC_4 h10) ?_
    refine g_iload_n (npc := 45) dX2_clear_44 rfl rfl rfl ?_
    refine g_iconst (npc := 46) dX2_clear_45 rfl ?_
    obtain ⟨h11, hT⟩ := hT
    replace hT := hT _ rfl
    refine g_iast (npc := 47) dX2_clear_46 rfl (arSL (rwSC_4 h10)) h11  ?_
    refine g_iinc (npc := 50) (y := (x3 + 1)) (l' := [(0, .ref 1), (2, iV x2), (3, iV (x3 + 1))]) dX2_clear_47 rfl (by decide) rfl (by omega) rfl ?_
    refine g_goto (npc := 32) dX2_clear_50 (by decide) ?_
    exact hT
set_option maxRecDepth 20000 in
theorem e_Gr_clear {n : Nat} {x1 : Int} {s : Sto} {Q : Sto → Prop} (hT : ∀ s1, s1 = up s 1 0 x1 → ∀ s2, s2 = up s1 1 1 0 → ∀ s3, s3 = up s2 1 2 0 → H_Gr_clear_17 n Q 0 s3) : K_Gr_clear n x1 s Q := by
  refine Sp.body (by decide +kernel) (Nat.le_of_ble_eq_true rfl) ?_
  show Go (SL n) M_Gr_clear (fV0 Q) 0 0 0 [(0, .ref 1), (1, iV x1)] [] s
  refine g_aload_n (npc := 1) dX2_clear_0 rfl rfl rfl ?_
  refine g_iload_n (npc := 2) dX2_clear_1 rfl rfl rfl ?_
  replace hT := hT _ rfl
  refine pf_Gr_9 (npc := 5) dX2_clear_2 rfl rfl ?_
  refine g_aload_n (npc := 6) dX2_clear_5 rfl rfl rfl ?_
  refine g_iconst (npc := 7) dX2_clear_6 rfl ?_
  replace hT := hT _ rfl
  refine pf_Gr_15 (npc := 10) dX2_clear_7 rfl rfl ?_
  refine g_aload_n (npc := 11) dX2_clear_10 rfl rfl rfl ?_
  refine g_iconst (npc := 12) dX2_clear_11 rfl ?_
  replace hT := hT _ rfl
  refine pf_Gr_18 (npc := 15) dX2_clear_12 rfl rfl ?_
  refine g_iconst (npc := 16) dX2_clear_15 rfl ?_
  refine g_istore_n (npc := 17) (l' := [(0, .ref 1), (1, iV x1), (2, iV 0)]) dX2_clear_16 rfl rfl (by decide) rfl ?_
  refine Go.lsub [0, 2] rfl ?_
  exact hT
set_option maxRecDepth 20000 in
theorem e_Gr_hasNode {n : Nat} {x1 : Int} {s : Sto} {Q : Int → Sto → Prop} (hT : (-2147483648 ≤ x1 ∧ x1 < 2147483648) ∧ ((x1 < 0) → Q 0 s) ∧ ((0 ≤ x1) → ((-2147483648 ≤ x1 ∧ x1 < 2147483648) ∧ -2147483648 ≤ (s 1 0) ∧ (s 1 0) < 2147483648) ∧ (((s 1 0) ≤ x1) → Q 0 s) ∧ ((x1 < (s 1 0)) → (-2147483648 ≤ x1 ∧ x1 < 2147483648) ∧ ((8 ≤ x1) → Q 0 s) ∧ ((x1 < 8) → Q 1 s)))) : K_Gr_hasNode n x1 s Q := by
  refine Sp.body (by decide +kernel) (Nat.le_of_ble_eq_true rfl) ?_
  show Go (SL n) M_Gr_hasNode (fI Q) 0 0 0 [(0, .ref 1), (1, iV x1)] [] s
  refine g_iload_n (npc := 1) dX2_hasNode_0 rfl rfl rfl ?_
  obtain ⟨h1, hTt, hTf⟩ := hT
  refine g_if_lt (npc := 4) (tgt := 22) dX2_hasNode_1 rfl (by decide) h1 (fun c2 => ?_) (fun c2 => ?_)
  · replace hT := hTt c2
    refine g_iconst (npc := 23) dX2_hasNode_22 rfl ?_
    exact g_iret dX2_hasNode_23 rfl (by decide) (by decide) ⟨_, rfl, hT⟩
  · replace hT := hTf (Int.not_lt.mp c2)
    refine g_iload_n (npc := 5) dX2_hasNode_4 rfl rfl rfl ?_
    refine g_aload_n (npc := 6) dX2_hasNode_5 rfl rfl rfl ?_
    refine gf_Gr_9 (npc := 9) dX2_hasNode_6 rfl rfl ?_
    obtain ⟨h3, hTt, hTf⟩ := hT
    refine g_icmp_ge (npc := 12) (tgt := 22) dX2_hasNode_9 rfl (by decide) h3 (fun c4 => ?_) (fun c4 => ?_)
    · replace hT := hTt c4
      refine g_iconst (npc := 23) dX2_hasNode_22 rfl ?_
      exact g_iret dX2_hasNode_23 rfl (by decide) (by decide) ⟨_, rfl, hT⟩
    · replace hT := hTf (Int.not_le.mp c4)
      refine g_iload_n (npc := 13) dX2_hasNode_12 rfl rfl rfl ?_
      refine g_bipush (npc := 15) (x := 8) dX2_hasNode_13 rfl (by decide) ?_
      obtain ⟨h5, hTt, hTf⟩ := hT
      refine g_icmp_ge (npc := 18) (tgt := 22) dX2_hasNode_15 rfl (by decide) ⟨h5, by decide, by decide⟩ (fun c6 => ?_) (fun c6 => ?_)
      · replace hT := hTt c6
        refine g_iconst (npc := 23) dX2_hasNode_22 rfl ?_
        exact g_iret dX2_hasNode_23 rfl (by decide) (by decide) ⟨_, rfl, hT⟩
      · replace hT := hTf (Int.not_le.mp c6)
        refine g_iconst (npc := 19) dX2_hasNode_18 rfl ?_
        refine g_goto (npc := 23) dX2_hasNode_19 (by decide) ?_
        exact g_iret dX2_hasNode_23 rfl (by decide) (by decide) ⟨_, rfl, hT⟩
set_option maxRecDepth 20000 in
theorem e_Gr_countJoining {n : Nat} {x1 : Int} {x2 : Int} {x3 : Int} {s : Sto} {Q : Sto → Prop} (hT : ∃ Q1 : Int → Sto → Prop, K_Gr_hasNode n x1 s Q1 ∧ ∀ r4 s3, Q1 r4 s3 → (-2147483648 ≤ r4 ∧ r4 < 2147483648) ∧ ((r4 = 0) → Q s3) ∧ ((¬ r4 = 0) → ∃ Q8 : Int → Sto → Prop, K_Gr_hasNode n x2 s3 Q8 ∧ ∀ r11 s10, Q8 r11 s10 → (-2147483648 ≤ r11 ∧ r11 < 2147483648) ∧ ((¬ r11 = 0) → (0 ≤ x1 ∧ x1 < 8) ∧ (0 ≤ x2 ∧ x2 < 8) ∧ (0 ≤ x2 ∧ x2 < 8) ∧ ∀ s18, s18 = up s10 (5 + Int.toNat x1) (Int.toNat x2) ((s10 (5 + Int.toNat x1) (Int.toNat x2)) + x3) → (0 ≤ x2 ∧ x2 < 8) ∧ (0 ≤ x1 ∧ x1 < 8) ∧ (0 ≤ x1 ∧ x1 < 8) ∧ ∀ s22, s22 = up s18 (5 + Int.toNat x2) (Int.toNat x1) ((s18 (5 + Int.toNat x2) (Int.toNat x1)) + x3) → (0 ≤ x1 ∧ x1 < 8) ∧ (0 ≤ x1 ∧ x1 < 8) ∧ ∀ s25, s25 = up s22 13 (Int.toNat x1) ((s22 13 (Int.toNat x1)) + x3) → (0 ≤ x2 ∧ x2 < 8) ∧ (0 ≤ x2 ∧ x2 < 8) ∧ ∀ s28, s28 = up s25 13 (Int.toNat x2) ((s25 13 (Int.toNat x2)) + x3) → Q s28) ∧ ((r11 = 0) → Q s10))) : K_Gr_countJoining n x1 x2 x3 s Q := by
  refine Sp.body (by decide +kernel) (Nat.le_of_ble_eq_true rfl) ?_
  show Go (SL n) M_Gr_countJoining (fV0 Q) 0 0 0 [(0, .ref 1), (1, iV x1), (2, iV x2), (3, iV x3)] [] s
  refine g_aload_n (npc := 1) dX2_countJoining_0 rfl rfl rfl ?_
  refine g_iload_n (npc := 2) dX2_countJoining_1 rfl rfl rfl ?_
  obtain ⟨Q1, h2, hT⟩ := hT
  refine iv_Gr_39 (npc := 5) dX2_countJoining_2 rfl rfl (Nat.le_of_ble_eq_true rfl) (by decide) (by decide) h2 (fun r4 s3 e5 => ?_)
  replace hT := hT r4 s3 e5
  obtain ⟨h6, hTt, hTf⟩ := hT
  refine g_if_eq (npc := 8) (tgt := 16) dX2_countJoining_5 rfl (by decide) h6 (fun c7 => ?_) (fun c7 => ?_)
  · replace hT := hTt c7
    exact g_ret dX2_countJoining_16 rfl (by decide) ⟨rfl, hT⟩
  · replace hT := hTf c7
    refine g_aload_n (npc := 9) dX2_countJoining_8 rfl rfl rfl ?_
    refine g_iload_n (npc := 10) dX2_countJoining_9 rfl rfl rfl ?_
    obtain ⟨Q8, h9, hT⟩ := hT
    refine iv_Gr_39 (npc := 13) dX2_countJoining_10 rfl rfl (Nat.le_of_ble_eq_true rfl) (by decide) (by decide) h9 (fun r11 s10 e12 => ?_)
    replace hT := hT r11 s10 e12
    obtain ⟨h13, hTt, hTf⟩ := hT
    refine g_if_ne (npc := 16) (tgt := 17) dX2_countJoining_13 rfl (by decide) h13 (fun c14 => ?_) (fun c14 => ?_)
    · replace hT := hTt c14
      refine g_aload_n (npc := 18) dX2_countJoining_17 rfl rfl rfl ?_
      refine gf_Gr_30 (npc := 21) dX2_countJoining_18 rfl rfl ?_
      refine g_iload_n (npc := 22) dX2_countJoining_21 rfl rfl rfl ?_
      obtain ⟨h15, hT⟩ := hT
      refine g_aald5 (npc := 23) dX2_countJoining_22 rfl (arSL arSC_4) h15 (frSC_4 h15) ?_
      refine g_iload_n (npc := 24) dX2_countJoining_23 rfl rfl rfl ?_
      refine g_dup2 (npc := 25) dX2_countJoining_24 rfl rfl rfl ?_
      obtain ⟨h16, hT⟩ := hT
      refine g_iald (npc := 26) dX2_countJoining_25 rfl (arSL (rwSC_4 h15)) h16 ?_
      refine g_iload_n (npc := 27) dX2_countJoining_26 rfl rfl rfl ?_
      refine g_iadd (npc := 28) dX2_countJoining_27 rfl ?_
      obtain ⟨h17, hT⟩ := hT
      replace hT := hT _ rfl
      refine g_iast (npc := 29) dX2_countJoining_28 rfl (arSL (rwSC_4 h15)) h17  ?_
      refine g_aload_n (npc := 30) dX2_countJoining_29 rfl rfl rfl ?_
      refine gf_Gr_30 (npc := 33) dX2_countJoining_30 rfl rfl ?_
      refine g_iload_n (npc := 34) dX2_countJoining_33 rfl rfl rfl ?_
      obtain ⟨h19, hT⟩ := hT
      refine g_aald5 (npc := 35) dX2_countJoining_34 rfl (arSL arSC_4) h19 (frSC_4 h19) ?_
      refine g_iload_n (npc := 36) dX2_countJoining_35 rfl rfl rfl ?_
      refine g_dup2 (npc := 37) dX2_countJoining_36 rfl rfl rfl ?_
      obtain ⟨h20, hT⟩ := hT
      refine g_iald (npc := 38) dX2_countJoining_37 rfl (arSL (rwSC_4 h19)) h20 ?_
      refine g_iload_n (npc := 39) dX2_countJoining_38 rfl rfl rfl ?_
      refine g_iadd (npc := 40) dX2_countJoining_39 rfl ?_
      obtain ⟨h21, hT⟩ := hT
      replace hT := hT _ rfl
      refine g_iast (npc := 41) dX2_countJoining_40 rfl (arSL (rwSC_4 h19)) h21  ?_
      refine g_aload_n (npc := 42) dX2_countJoining_41 rfl rfl rfl ?_
      refine gf_Gr_33 (npc := 45) dX2_countJoining_42 rfl rfl ?_
      refine g_iload_n (npc := 46) dX2_countJoining_45 rfl rfl rfl ?_
      refine g_dup2 (npc := 47) dX2_countJoining_46 rfl rfl rfl ?_
      obtain ⟨h23, hT⟩ := hT
      refine g_iald (npc := 48) dX2_countJoining_47 rfl (arSL arSC_13) h23 ?_
      refine g_iload_n (npc := 49) dX2_countJoining_48 rfl rfl rfl ?_
      refine g_iadd (npc := 50) dX2_countJoining_49 rfl ?_
      obtain ⟨h24, hT⟩ := hT
      replace hT := hT _ rfl
      refine g_iast (npc := 51) dX2_countJoining_50 rfl (arSL arSC_13) h24  ?_
      refine g_aload_n (npc := 52) dX2_countJoining_51 rfl rfl rfl ?_
      refine gf_Gr_33 (npc := 55) dX2_countJoining_52 rfl rfl ?_
      refine g_iload_n (npc := 56) dX2_countJoining_55 rfl rfl rfl ?_
      refine g_dup2 (npc := 57) dX2_countJoining_56 rfl rfl rfl ?_
      obtain ⟨h26, hT⟩ := hT
      refine g_iald (npc := 58) dX2_countJoining_57 rfl (arSL arSC_13) h26 ?_
      refine g_iload_n (npc := 59) dX2_countJoining_58 rfl rfl rfl ?_
      refine g_iadd (npc := 60) dX2_countJoining_59 rfl ?_
      obtain ⟨h27, hT⟩ := hT
      replace hT := hT _ rfl
      refine g_iast (npc := 61) dX2_countJoining_60 rfl (arSL arSC_13) h27  ?_
      exact g_ret dX2_countJoining_61 rfl (by decide) ⟨rfl, hT⟩
    · replace hT := hTf (Decidable.not_not.mp c14)
      exact g_ret dX2_countJoining_16 rfl (by decide) ⟨rfl, hT⟩
set_option maxRecDepth 20000 in
theorem e_Gr_append {n : Nat} {x1 : Int} {x2 : Int} {s : Sto} {Q : Sto → Prop} (hT : ∃ Q1 : Int → Sto → Prop, K_Gr_hasNode n x1 s Q1 ∧ ∀ r4 s3, Q1 r4 s3 → (-2147483648 ≤ r4 ∧ r4 < 2147483648) ∧ ((r4 = 0) → Q s3) ∧ ((¬ r4 = 0) → ∃ Q8 : Int → Sto → Prop, K_Gr_hasNode n x2 s3 Q8 ∧ ∀ r11 s10, Q8 r11 s10 → (-2147483648 ≤ r11 ∧ r11 < 2147483648) ∧ ((r11 = 0) → Q s10) ∧ ((¬ r11 = 0) → (-2147483648 ≤ (s10 1 1) ∧ (s10 1 1) < 2147483648) ∧ (((s10 1 1) < 0) → Q s10) ∧ ((0 ≤ (s10 1 1)) → (-2147483648 ≤ (s10 1 1) ∧ (s10 1 1) < 2147483648) ∧ (((s10 1 1) < 20) → (0 ≤ (s10 1 1) ∧ (s10 1 1) < 20) ∧ ∀ s20, s20 = up s10 2 (Int.toNat (s10 1 1)) x1 → (0 ≤ (s20 1 1) ∧ (s20 1 1) < 20) ∧ ∀ s22, s22 = up s20 3 (Int.toNat (s20 1 1)) x2 → ∀ s23, s23 = up s22 1 1 ((s22 1 1) + 1) → ∃ Q24 : Sto → Prop, K_Gr_countJoining n x1 x2 1 s23 Q24 ∧ ∀ s26, Q24 s26 → Q s26) ∧ ((20 ≤ (s10 1 1)) → Q s10))))) : K_Gr_append n x1 x2 s Q := by
  refine Sp.body (by decide +kernel) (Nat.le_of_ble_eq_true rfl) ?_
  show Go (SL n) M_Gr_append (fV0 Q) 0 0 0 [(0, .ref 1), (1, iV x1), (2, iV x2)] [] s
  refine g_aload_n (npc := 1) dX2_append_0 rfl rfl rfl ?_
  refine g_iload_n (npc := 2) dX2_append_1 rfl rfl rfl ?_
  obtain ⟨Q1, h2, hT⟩ := hT
  refine iv_Gr_39 (npc := 5) dX2_append_2 rfl rfl (Nat.le_of_ble_eq_true rfl) (by decide) (by decide) h2 (fun r4 s3 e5 => ?_)
  replace hT := hT r4 s3 e5
  obtain ⟨h6, hTt, hTf⟩ := hT
  refine g_if_eq (npc := 8) (tgt := 32) dX2_append_5 rfl (by decide) h6 (fun c7 => ?_) (fun c7 => ?_)
  · replace hT := hTt c7
    exact g_ret dX2_append_32 rfl (by decide) ⟨rfl, hT⟩
  · replace hT := hTf c7
    refine g_aload_n (npc := 9) dX2_append_8 rfl rfl rfl ?_
    refine g_iload_n (npc := 10) dX2_append_9 rfl rfl rfl ?_
    obtain ⟨Q8, h9, hT⟩ := hT
    refine iv_Gr_39 (npc := 13) dX2_append_10 rfl rfl (Nat.le_of_ble_eq_true rfl) (by decide) (by decide) h9 (fun r11 s10 e12 => ?_)
    replace hT := hT r11 s10 e12
    obtain ⟨h13, hTt, hTf⟩ := hT
    refine g_if_eq (npc := 16) (tgt := 32) dX2_append_13 rfl (by decide) h13 (fun c14 => ?_) (fun c14 => ?_)
    · replace hT := hTt c14
      exact g_ret dX2_append_32 rfl (by decide) ⟨rfl, hT⟩
    · replace hT := hTf c14
      refine g_aload_n (npc := 17) dX2_append_16 rfl rfl rfl ?_
      refine gf_Gr_15 (npc := 20) dX2_append_17 rfl rfl ?_
      obtain ⟨h15, hTt, hTf⟩ := hT
      refine g_if_lt (npc := 23) (tgt := 32) dX2_append_20 rfl (by decide) h15 (fun c16 => ?_) (fun c16 => ?_)
      · replace hT := hTt c16
        exact g_ret dX2_append_32 rfl (by decide) ⟨rfl, hT⟩
      · replace hT := hTf (Int.not_lt.mp c16)
        refine g_aload_n (npc := 24) dX2_append_23 rfl rfl rfl ?_
        refine gf_Gr_15 (npc := 27) dX2_append_24 rfl rfl ?_
        refine g_bipush (npc := 29) (x := 20) dX2_append_27 rfl (by decide) ?_
        obtain ⟨h17, hTt, hTf⟩ := hT
        refine g_icmp_lt (npc := 32) (tgt := 33) dX2_append_29 rfl (by decide) ⟨h17, by decide, by decide⟩ (fun c18 => ?_) (fun c18 => ?_)
        · replace hT := hTt c18
          refine g_aload_n (npc := 34) dX2_append_33 rfl rfl rfl ?_
          refine gf_Gr_21 (npc := 37) dX2_append_34 rfl rfl ?_
          refine g_aload_n (npc := 38) dX2_append_37 rfl rfl rfl ?_
          refine gf_Gr_15 (npc := 41) dX2_append_38 rfl rfl ?_
          refine g_iload_n (npc := 42) dX2_append_41 rfl rfl rfl ?_
          obtain ⟨h19, hT⟩ := hT
          replace hT := hT _ rfl
          refine g_iast (npc := 43) dX2_append_42 rfl (arSL arSC_2) h19  ?_
          refine g_aload_n (npc := 44) dX2_append_43 rfl rfl rfl ?_
          refine gf_Gr_25 (npc := 47) dX2_append_44 rfl rfl ?_
          refine g_aload_n (npc := 48) dX2_append_47 rfl rfl rfl ?_
          refine gf_Gr_15 (npc := 51) dX2_append_48 rfl rfl ?_
          refine g_iload_n (npc := 52) dX2_append_51 rfl rfl rfl ?_
          obtain ⟨h21, hT⟩ := hT
          replace hT := hT _ rfl
          refine g_iast (npc := 53) dX2_append_52 rfl (arSL arSC_3) h21  ?_
          refine g_aload_n (npc := 54) dX2_append_53 rfl rfl rfl ?_
          refine g_dup (npc := 55) dX2_append_54 rfl rfl ?_
          refine gf_Gr_15 (npc := 58) dX2_append_55 rfl rfl ?_
          refine g_iconst (npc := 59) dX2_append_58 rfl ?_
          refine g_iadd (npc := 60) dX2_append_59 rfl ?_
          replace hT := hT _ rfl
          refine pf_Gr_15 (npc := 63) dX2_append_60 rfl rfl ?_
          refine g_aload_n (npc := 64) dX2_append_63 rfl rfl rfl ?_
          refine g_iload_n (npc := 65) dX2_append_64 rfl rfl rfl ?_
          refine g_iload_n (npc := 66) dX2_append_65 rfl rfl rfl ?_
          refine g_iconst (npc := 67) dX2_append_66 rfl ?_
          obtain ⟨Q24, h25, hT⟩ := hT
          refine iv_Gr_43 (npc := 70) dX2_append_67 rfl rfl (Nat.le_of_ble_eq_true rfl) (by decide) (by decide) h25 (fun s26 e28 => ?_)
          replace hT := hT s26 e28
          exact g_ret dX2_append_70 rfl (by decide) ⟨rfl, hT⟩
        · replace hT := hTf (Int.not_lt.mp c18)
          exact g_ret dX2_append_32 rfl (by decide) ⟨rfl, hT⟩
set_option maxRecDepth 20000 in
theorem e_Gr_hasEdge {n : Nat} {x1 : Int} {s : Sto} {Q : Int → Sto → Prop} (hT : (-2147483648 ≤ x1 ∧ x1 < 2147483648) ∧ ((x1 < 0) → Q 0 s) ∧ ((0 ≤ x1) → ((-2147483648 ≤ x1 ∧ x1 < 2147483648) ∧ -2147483648 ≤ (s 1 1) ∧ (s 1 1) < 2147483648) ∧ (((s 1 1) ≤ x1) → Q 0 s) ∧ ((x1 < (s 1 1)) → (-2147483648 ≤ x1 ∧ x1 < 2147483648) ∧ ((20 ≤ x1) → Q 0 s) ∧ ((x1 < 20) → Q 1 s)))) : K_Gr_hasEdge n x1 s Q := by
  refine Sp.body (by decide +kernel) (Nat.le_of_ble_eq_true rfl) ?_
  show Go (SL n) M_Gr_hasEdge (fI Q) 0 0 0 [(0, .ref 1), (1, iV x1)] [] s
  refine g_iload_n (npc := 1) dX2_hasEdge_0 rfl rfl rfl ?_
  obtain ⟨h1, hTt, hTf⟩ := hT
  refine g_if_lt (npc := 4) (tgt := 22) dX2_hasEdge_1 rfl (by decide) h1 (fun c2 => ?_) (fun c2 => ?_)
  · replace hT := hTt c2
    refine g_iconst (npc := 23) dX2_hasEdge_22 rfl ?_
    exact g_iret dX2_hasEdge_23 rfl (by decide) (by decide) ⟨_, rfl, hT⟩
  · replace hT := hTf (Int.not_lt.mp c2)
    refine g_iload_n (npc := 5) dX2_hasEdge_4 rfl rfl rfl ?_
    refine g_aload_n (npc := 6) dX2_hasEdge_5 rfl rfl rfl ?_
    refine gf_Gr_15 (npc := 9) dX2_hasEdge_6 rfl rfl ?_
    obtain ⟨h3, hTt, hTf⟩ := hT
    refine g_icmp_ge (npc := 12) (tgt := 22) dX2_hasEdge_9 rfl (by decide) h3 (fun c4 => ?_) (fun c4 => ?_)
    · replace hT := hTt c4
      refine g_iconst (npc := 23) dX2_hasEdge_22 rfl ?_
      exact g_iret dX2_hasEdge_23 rfl (by decide) (by decide) ⟨_, rfl, hT⟩
    · replace hT := hTf (Int.not_le.mp c4)
      refine g_iload_n (npc := 13) dX2_hasEdge_12 rfl rfl rfl ?_
      refine g_bipush (npc := 15) (x := 20) dX2_hasEdge_13 rfl (by decide) ?_
      obtain ⟨h5, hTt, hTf⟩ := hT
      refine g_icmp_ge (npc := 18) (tgt := 22) dX2_hasEdge_15 rfl (by decide) ⟨h5, by decide, by decide⟩ (fun c6 => ?_) (fun c6 => ?_)
      · replace hT := hTt c6
        refine g_iconst (npc := 23) dX2_hasEdge_22 rfl ?_
        exact g_iret dX2_hasEdge_23 rfl (by decide) (by decide) ⟨_, rfl, hT⟩
      · replace hT := hTf (Int.not_le.mp c6)
        refine g_iconst (npc := 19) dX2_hasEdge_18 rfl ?_
        refine g_goto (npc := 23) dX2_hasEdge_19 (by decide) ?_
        exact g_iret dX2_hasEdge_23 rfl (by decide) (by decide) ⟨_, rfl, hT⟩
abbrev H_Gr_drop_28 (n : Nat) (Q : Sto → Prop) (x2 : Int) (s : Sto) : Prop := Go (SL n) M_Gr_drop (fV0 Q) 0 0 28 [(0, .ref 1), (2, iV x2)] [] s
set_option maxRecDepth 20000 in
theorem b_Gr_drop_28 {n : Nat} {Q : Sto → Prop} {x2 : Int} {s : Sto} (hT : ((-2147483648 ≤ (x2 + 1) ∧ (x2 + 1) < 2147483648) ∧ -2147483648 ≤ (s 1 1) ∧ (s 1 1) < 2147483648) ∧ (((s 1 1) ≤ (x2 + 1)) → ∀ s17, s17 = up s 1 1 ((s 1 1) - 1) → Q s17) ∧ (((x2 + 1) < (s 1 1)) → (0 ≤ (x2 + 1) ∧ (x2 + 1) < 20) ∧ (0 ≤ x2 ∧ x2 < 20) ∧ ∀ s20, s20 = up s 2 (Int.toNat x2) (s 2 (Int.toNat (x2 + 1))) → (0 ≤ (x2 + 1) ∧ (x2 + 1) < 20) ∧ (0 ≤ x2 ∧ x2 < 20) ∧ ∀ s23, s23 = up s20 3 (Int.toNat x2) (s20 3 (Int.toNat (x2 + 1))) → H_Gr_drop_28 n Q (x2 + 1) s23)) : H_Gr_drop_28 n Q x2 s := by
  refine g_iload_n (npc := 29) dX2_drop_28 rfl rfl rfl ?_
  refine g_iconst (npc := 30) dX2_drop_29 rfl ?_
  refine g_iadd (npc := 31) dX2_drop_30 rfl ?_
  refine g_aload_n (npc := 32) dX2_drop_31 rfl rfl rfl ?_
  refine gf_Gr_15 (npc := 35) dX2_drop_32 rfl rfl ?_
  obtain ⟨h15, hTt, hTf⟩ := hT
  refine g_icmp_ge (npc := 38) (tgt := 72) dX2_drop_35 rfl (by decide) h15 (fun c16 => ?_) (fun c16 => ?_)
  · replace hT := hTt c16
    refine g_aload_n (npc := 73) dX2_drop_72 rfl rfl rfl ?_
    refine g_dup (npc := 74) dX2_drop_73 rfl rfl ?_
    refine gf_Gr_15 (npc := 77) dX2_drop_74 rfl rfl ?_
    refine g_iconst (npc := 78) dX2_drop_77 rfl ?_
    refine g_isub (npc := 79) dX2_drop_78 rfl ?_
    replace hT := hT _ rfl
    refine pf_Gr_15 (npc := 82) dX2_drop_79 rfl rfl ?_
    exact g_ret dX2_drop_82 rfl (by decide) ⟨rfl, hT⟩
  · replace hT := hTf (Int.not_le.mp c16)
    refine g_aload_n (npc := 39) dX2_drop_38 rfl rfl rfl ?_
    refine gf_Gr_21 (npc := 42) dX2_drop_39 rfl rfl ?_
    refine g_iload_n (npc := 43) dX2_drop_42 rfl rfl rfl ?_
    refine g_aload_n (npc := 44) dX2_drop_43 rfl rfl rfl ?_
    refine gf_Gr_21 (npc := 47) dX2_drop_44 rfl rfl ?_
    refine g_iload_n (npc := 48) dX2_drop_47 rfl rfl rfl ?_
    refine g_iconst (npc := 49) dX2_drop_48 rfl ?_
    refine g_iadd (npc := 50) dX2_drop_49 rfl ?_
    obtain ⟨h18, hT⟩ := hT
    refine g_iald (npc := 51) dX2_drop_50 rfl (arSL arSC_2) h18 ?_
    obtain ⟨h19, hT⟩ := hT
    replace hT := hT _ rfl
    refine g_iast (npc := 52) dX2_drop_51 rfl (arSL arSC_2) h19  ?_
    refine g_aload_n (npc := 53) dX2_drop_52 rfl rfl rfl ?_
    refine gf_Gr_25 (npc := 56) dX2_drop_53 rfl rfl ?_
    refine g_iload_n (npc := 57) dX2_drop_56 rfl rfl rfl ?_
    refine g_aload_n (npc := 58) dX2_drop_57 rfl rfl rfl ?_
    refine gf_Gr_25 (npc := 61) dX2_drop_58 rfl rfl ?_
    refine g_iload_n (npc := 62) dX2_drop_61 rfl rfl rfl ?_
    refine g_iconst (npc := 63) dX2_drop_62 rfl ?_
    refine g_iadd (npc := 64) dX2_drop_63 rfl ?_
    obtain ⟨h21, hT⟩ := hT
    refine g_iald (npc := 65) dX2_drop_64 rfl (arSL arSC_3) h21 ?_
    obtain ⟨h22, hT⟩ := hT
    replace hT := hT _ rfl
    refine g_iast (npc := 66) dX2_drop_65 rfl (arSL arSC_3) h22  ?_
    refine g_iinc (npc := 69) (y := (x2 + 1)) (l' := [(0, .ref 1), (2, iV (x2 + 1))]) dX2_drop_66 rfl (by decide) rfl (by omega) rfl ?_
    refine g_goto (npc := 28) dX2_drop_69 (by decide) ?_
    exact hT
set_option maxRecDepth 20000 in
theorem e_Gr_drop {n : Nat} {x1 : Int} {s : Sto} {Q : Sto → Prop} (hT : ∃ Q1 : Int → Sto → Prop, K_Gr_hasEdge n x1 s Q1 ∧ ∀ r4 s3, Q1 r4 s3 → (-2147483648 ≤ r4 ∧ r4 < 2147483648) ∧ ((¬ r4 = 0) → (0 ≤ x1 ∧ x1 < 20) ∧ (0 ≤ x1 ∧ x1 < 20) ∧ ∃ Q10 : Sto → Prop, K_Gr_countJoining n (s3 2 (Int.toNat x1)) (s3 3 (Int.toNat x1)) (-1) s3 Q10 ∧ ∀ s12, Q10 s12 → H_Gr_drop_28 n Q x1 s12) ∧ ((r4 = 0) → Q s3)) : K_Gr_drop n x1 s Q := by
  refine Sp.body (by decide +kernel) (Nat.le_of_ble_eq_true rfl) ?_
  show Go (SL n) M_Gr_drop (fV0 Q) 0 0 0 [(0, .ref 1), (1, iV x1)] [] s
  refine g_aload_n (npc := 1) dX2_drop_0 rfl rfl rfl ?_
  refine g_iload_n (npc := 2) dX2_drop_1 rfl rfl rfl ?_
  obtain ⟨Q1, h2, hT⟩ := hT
  refine iv_Gr_47 (npc := 5) dX2_drop_2 rfl rfl (Nat.le_of_ble_eq_true rfl) (by decide) (by decide) h2 (fun r4 s3 e5 => ?_)
  replace hT := hT r4 s3 e5
  obtain ⟨h6, hTt, hTf⟩ := hT
  refine g_if_ne (npc := 8) (tgt := 9) dX2_drop_5 rfl (by decide) h6 (fun c7 => ?_) (fun c7 => ?_)
  · replace hT := hTt c7
    refine g_aload_n (npc := 10) dX2_drop_9 rfl rfl rfl ?_
    refine g_aload_n (npc := 11) dX2_drop_10 rfl rfl rfl ?_
    refine gf_Gr_21 (npc := 14) dX2_drop_11 rfl rfl ?_
    refine g_iload_n (npc := 15) dX2_drop_14 rfl rfl rfl ?_
    obtain ⟨h8, hT⟩ := hT
    refine g_iald (npc := 16) dX2_drop_15 rfl (arSL arSC_2) h8 ?_
    refine g_aload_n (npc := 17) dX2_drop_16 rfl rfl rfl ?_
    refine gf_Gr_25 (npc := 20) dX2_drop_17 rfl rfl ?_
    refine g_iload_n (npc := 21) dX2_drop_20 rfl rfl rfl ?_
    obtain ⟨h9, hT⟩ := hT
    refine g_iald (npc := 22) dX2_drop_21 rfl (arSL arSC_3) h9 ?_
    refine g_iconst (npc := 23) dX2_drop_22 rfl ?_
    obtain ⟨Q10, h11, hT⟩ := hT
    refine iv_Gr_43 (npc := 26) dX2_drop_23 rfl rfl (Nat.le_of_ble_eq_true rfl) (by decide) (by decide) h11 (fun s12 e14 => ?_)
    replace hT := hT s12 e14
    refine g_iload_n (npc := 27) dX2_drop_26 rfl rfl rfl ?_
    refine g_istore_n (npc := 28) (l' := [(0, .ref 1), (1, iV x1), (2, iV x1)]) dX2_drop_27 rfl rfl (by decide) rfl ?_
    refine Go.lsub [0, 2] rfl ?_
    exact hT
  · replace hT := hTf (Decidable.not_not.mp c7)
    exact g_ret dX2_drop_8 rfl (by decide) ⟨rfl, hT⟩
set_option maxRecDepth 20000 in
theorem e_Gr_allEdges {n : Nat} {s : Sto} {Q : Int → Sto → Prop} (hT : Q ((ishl 1 (s 1 1)) - 1) s) : K_Gr_allEdges n s Q := by
  refine Sp.body (by decide +kernel) (Nat.le_of_ble_eq_true rfl) ?_
  show Go (SL n) M_Gr_allEdges (fI Q) 0 0 0 [(0, .ref 1)] [] s
  refine g_iconst (npc := 1) dX2_allEdges_0 rfl ?_
  refine g_aload_n (npc := 2) dX2_allEdges_1 rfl rfl rfl ?_
  refine gf_Gr_15 (npc := 5) dX2_allEdges_2 rfl rfl ?_
  refine g_ishl (npc := 6) dX2_allEdges_5 rfl ?_
  refine g_iconst (npc := 7) dX2_allEdges_6 rfl ?_
  refine g_isub (npc := 8) dX2_allEdges_7 rfl ?_
  exact g_iret dX2_allEdges_8 rfl rfl (by decide) ⟨_, rfl, hT⟩
abbrev H_Gr_relabel_2 (n : Nat) (Q : Sto → Prop) (x1 : Int) (x2 : Int) (x3 : Int) (s : Sto) : Prop := Go (SL n) M_Gr_relabel (fV0 Q) 0 0 2 [(0, .ref 1), (1, iV x1), (2, iV x2), (3, iV x3)] [] s
set_option maxRecDepth 20000 in
theorem b_Gr_relabel_2 {n : Nat} {Q : Sto → Prop} {x1 : Int} {x2 : Int} {x3 : Int} {s : Sto} (hT : ((-2147483648 ≤ x3 ∧ x3 < 2147483648) ∧ -2147483648 ≤ (s 1 0) ∧ (s 1 0) < 2147483648) ∧ (((s 1 0) ≤ x3) → Q s) ∧ ((x3 < (s 1 0)) → (0 ≤ x3 ∧ x3 < 8) ∧ ((-2147483648 ≤ (s 14 (Int.toNat x3)) ∧ (s 14 (Int.toNat x3)) < 2147483648) ∧ -2147483648 ≤ x1 ∧ x1 < 2147483648) ∧ ((¬ (s 14 (Int.toNat x3)) = x1) → H_Gr_relabel_2 n Q x1 x2 (x3 + 1) s) ∧ (((s 14 (Int.toNat x3)) = x1) → (0 ≤ x3 ∧ x3 < 8) ∧ ∀ s7, s7 = up s 14 (Int.toNat x3) x2 → H_Gr_relabel_2 n Q x1 x2 (x3 + 1) s7))) : H_Gr_relabel_2 n Q x1 x2 x3 s := by
  refine g_iload_n (npc := 3) dX2_relabel_2 rfl rfl rfl ?_
  refine g_aload_n (npc := 4) dX2_relabel_3 rfl rfl rfl ?_
  refine gf_Gr_9 (npc := 7) dX2_relabel_4 rfl rfl ?_
  obtain ⟨h1, hTt, hTf⟩ := hT
  refine g_icmp_ge (npc := 10) (tgt := 33) dX2_relabel_7 rfl (by decide) h1 (fun c2 => ?_) (fun c2 => ?_)
  · replace hT := hTt c2
    exact g_ret dX2_relabel_33 rfl (by decide) ⟨rfl, hT⟩
  · replace hT := hTf (Int.not_le.mp c2)
    refine g_aload_n (npc := 11) dX2_relabel_10 rfl rfl rfl ?_
    refine gf_Gr_36 (npc := 14) dX2_relabel_11 rfl rfl ?_
    refine g_iload_n (npc := 15) dX2_relabel_14 rfl rfl rfl ?_
    obtain ⟨h3, hT⟩ := hT
    refine g_iald (npc := 16) dX2_relabel_15 rfl (arSL arSC_14) h3 ?_
    refine g_iload_n (npc := 17) dX2_relabel_16 rfl rfl rfl ?_
    obtain ⟨h4, hTt, hTf⟩ := hT
    refine g_icmp_ne (npc := 20) (tgt := 27) dX2_relabel_17 rfl (by decide) h4 (fun c5 => ?_) (fun c5 => ?_)
    · replace hT := hTt c5
      refine g_iinc (npc := 30) (y := (x3 + 1)) (l' := [(0, .ref 1), (1, iV x1), (2, iV x2), (3, iV (x3 + 1))]) dX2_relabel_27 rfl (by decide) rfl (by omega) rfl ?_
      refine g_goto (npc := 2) dX2_relabel_30 (by decide) ?_
      exact hT
    · replace hT := hTf (Decidable.not_not.mp c5)
      refine g_aload_n (npc := 21) dX2_relabel_20 rfl rfl rfl ?_
      refine gf_Gr_36 (npc := 24) dX2_relabel_21 rfl rfl ?_
      refine g_iload_n (npc := 25) dX2_relabel_24 rfl rfl rfl ?_
      refine g_iload_n (npc := 26) dX2_relabel_25 rfl rfl rfl ?_
      obtain ⟨h6, hT⟩ := hT
      replace hT := hT _ rfl
      refine g_iast (npc := 27) dX2_relabel_26 rfl (arSL arSC_14) h6  ?_
      refine g_iinc (npc := 30) (y := (x3 + 1)) (l' := [(0, .ref 1), (1, iV x1), (2, iV x2), (3, iV (x3 + 1))]) dX2_relabel_27 rfl (by decide) rfl (by omega) rfl ?_
      refine g_goto (npc := 2) dX2_relabel_30 (by decide) ?_
      exact hT
set_option maxRecDepth 20000 in
theorem e_Gr_relabel {n : Nat} {x1 : Int} {x2 : Int} {s : Sto} {Q : Sto → Prop} (hT : H_Gr_relabel_2 n Q x1 x2 0 s) : K_Gr_relabel n x1 x2 s Q := by
  refine Sp.body (by decide +kernel) (Nat.le_of_ble_eq_true rfl) ?_
  show Go (SL n) M_Gr_relabel (fV0 Q) 0 0 0 [(0, .ref 1), (1, iV x1), (2, iV x2)] [] s
  refine g_iconst (npc := 1) dX2_relabel_0 rfl ?_
  refine g_istore_n (npc := 2) (l' := [(0, .ref 1), (1, iV x1), (2, iV x2), (3, iV 0)]) dX2_relabel_1 rfl rfl (by decide) rfl ?_
  exact hT
abbrev H_Gr_findParts_2 (n : Nat) (Q : Int → Sto → Prop) (x1 : Int) (x2 : Int) (s : Sto) : Prop := Go (SL n) M_Gr_findParts (fI Q) 0 0 2 [(0, .ref 1), (1, iV x1), (2, iV x2)] [] s
abbrev H_Gr_findParts_30 (n : Nat) (Q : Int → Sto → Prop) (x1 : Int) (x2 : Int) (x3 : Int) (s : Sto) : Prop := Go (SL n) M_Gr_findParts (fI Q) 0 0 30 [(0, .ref 1), (1, iV x1), (2, iV x2), (3, iV x3)] [] s
set_option maxRecDepth 20000 in
theorem b_Gr_findParts_2 {n : Nat} {Q : Int → Sto → Prop} {x1 : Int} {x2 : Int} {s : Sto} (hT : ((-2147483648 ≤ x2 ∧ x2 < 2147483648) ∧ -2147483648 ≤ (s 1 0) ∧ (s 1 0) < 2147483648) ∧ (((s 1 0) ≤ x2) → H_Gr_findParts_30 n Q x1 (s 1 0) 0 s) ∧ ((x2 < (s 1 0)) → (0 ≤ x2 ∧ x2 < 8) ∧ ∀ s4, s4 = up s 14 (Int.toNat x2) x2 → H_Gr_findParts_2 n Q x1 (x2 + 1) s4)) : H_Gr_findParts_2 n Q x1 x2 s := by
  refine g_iload_n (npc := 3) dX2_findParts_2 rfl rfl rfl ?_
  refine g_aload_n (npc := 4) dX2_findParts_3 rfl rfl rfl ?_
  refine gf_Gr_9 (npc := 7) dX2_findParts_4 rfl rfl ?_
  obtain ⟨h1, hTt, hTf⟩ := hT
  refine g_icmp_ge (npc := 10) (tgt := 23) dX2_findParts_7 rfl (by decide) h1 (fun c2 => ?_) (fun c2 => ?_)
  · replace hT := hTt c2
    refine g_aload_n (npc := 24) dX2_findParts_23 rfl rfl rfl ?_
    refine gf_Gr_9 (npc := 27) dX2_findParts_24 rfl rfl ?_
    refine g_istore_n (npc := 28) (l' := [(0, .ref 1), (1, iV x1), (2, iV (s 1 0))]) dX2_findParts_27 rfl rfl (by decide) rfl ?_
    refine g_iconst (npc := 29) dX2_findParts_28 rfl ?_
    refine g_istore_n (npc := 30) (l' := [(0, .ref 1), (1, iV x1), (2, iV (s 1 0)), (3, iV 0)]) dX2_findParts_29 rfl rfl (by decide) rfl ?_
    exact hT
  · replace hT := hTf (Int.not_le.mp c2)
    refine g_aload_n (npc := 11) dX2_findParts_10 rfl rfl rfl ?_
    refine gf_Gr_36 (npc := 14) dX2_findParts_11 rfl rfl ?_
    refine g_iload_n (npc := 15) dX2_findParts_14 rfl rfl rfl ?_
    refine g_iload_n (npc := 16) dX2_findParts_15 rfl rfl rfl ?_
    obtain ⟨h3, hT⟩ := hT
    replace hT := hT _ rfl
    refine g_iast (npc := 17) dX2_findParts_16 rfl (arSL arSC_14) h3  ?_
    refine g_iinc (npc := 20) (y := (x2 + 1)) (l' := [(0, .ref 1), (1, iV x1), (2, iV (x2 + 1))]) dX2_findParts_17 rfl (by decide) rfl (by omega) rfl ?_
    refine g_goto (npc := 2) dX2_findParts_20 (by decide) ?_
    exact hT
set_option maxRecDepth 20000 in
theorem b_Gr_findParts_30 {n : Nat} {Q : Int → Sto → Prop} {x1 : Int} {x2 : Int} {x3 : Int} {s : Sto} (hT : ((-2147483648 ≤ x3 ∧ x3 < 2147483648) ∧ -2147483648 ≤ (s 1 1) ∧ (s 1 1) < 2147483648) ∧ (((s 1 1) ≤ x3) → Q x2 s) ∧ ((x3 < (s 1 1)) → (0 ≤ x3 ∧ x3 < 20) ∧ (0 ≤ (s 2 (Int.toNat x3)) ∧ (s 2 (Int.toNat x3)) < 8) ∧ (0 ≤ x3 ∧ x3 < 20) ∧ (0 ≤ (s 3 (Int.toNat x3)) ∧ (s 3 (Int.toNat x3)) < 8) ∧ (-2147483648 ≤ (iand (ishr x1 x3) 1) ∧ (iand (ishr x1 x3) 1) < 2147483648) ∧ (((iand (ishr x1 x3) 1) = 0) → H_Gr_findParts_30 n Q x1 x2 (x3 + 1) s) ∧ ((¬ (iand (ishr x1 x3) 1) = 0) → ((-2147483648 ≤ (s 14 (Int.toNat (s 2 (Int.toNat x3)))) ∧ (s 14 (Int.toNat (s 2 (Int.toNat x3)))) < 2147483648) ∧ -2147483648 ≤ (s 14 (Int.toNat (s 3 (Int.toNat x3)))) ∧ (s 14 (Int.toNat (s 3 (Int.toNat x3)))) < 2147483648) ∧ (((s 14 (Int.toNat (s 2 (Int.toNat x3)))) = (s 14 (Int.toNat (s 3 (Int.toNat x3))))) → H_Gr_findParts_30 n Q x1 x2 (x3 + 1) s) ∧ ((¬ (s 14 (Int.toNat (s 2 (Int.toNat x3)))) = (s 14 (Int.toNat (s 3 (Int.toNat x3))))) → ∃ Q15 : Sto → Prop, K_Gr_relabel n (s 14 (Int.toNat (s 3 (Int.toNat x3)))) (s 14 (Int.toNat (s 2 (Int.toNat x3)))) s Q15 ∧ ∀ s17, Q15 s17 → H_Gr_findParts_30 n Q x1 (x2 - 1) (x3 + 1) s17)))) : H_Gr_findParts_30 n Q x1 x2 x3 s := by
  refine g_iload_n (npc := 31) dX2_findParts_30 rfl rfl rfl ?_
  refine g_aload_n (npc := 32) dX2_findParts_31 rfl rfl rfl ?_
  refine gf_Gr_15 (npc := 35) dX2_findParts_32 rfl rfl ?_
  obtain ⟨h5, hTt, hTf⟩ := hT
  refine g_icmp_ge (npc := 38) (tgt := 96) dX2_findParts_35 rfl (by decide) h5 (fun c6 => ?_) (fun c6 => ?_)
  · replace hT := hTt c6
    refine g_iload_n (npc := 97) dX2_findParts_96 rfl rfl rfl ?_
    exact g_iret dX2_findParts_97 rfl rfl (by decide) ⟨_, rfl, hT⟩
  · replace hT := hTf (Int.not_le.mp c6)
    refine g_aload_n (npc := 39) dX2_findParts_38 rfl rfl rfl ?_
    refine gf_Gr_36 (npc := 42) dX2_findParts_39 rfl rfl ?_
    refine g_aload_n (npc := 43) dX2_findParts_42 rfl rfl rfl ?_
    refine gf_Gr_21 (npc := 46) dX2_findParts_43 rfl rfl ?_
    refine g_iload_n (npc := 47) dX2_findParts_46 rfl rfl rfl ?_
    obtain ⟨h7, hT⟩ := hT
    refine g_iald (npc := 48) dX2_findParts_47 rfl (arSL arSC_2) h7 ?_
    obtain ⟨h8, hT⟩ := hT
    refine g_iald (npc := 49) dX2_findParts_48 rfl (arSL arSC_14) h8 ?_
    refine g_istore (npc := 51) (l' := [(0, .ref 1), (1, iV x1), (2, iV x2), (3, iV x3), (4, iV (s 14 (Int.toNat (s 2 (Int.toNat x3)))))]) dX2_findParts_49 rfl (by decide) rfl ?_
    refine g_aload_n (npc := 52) dX2_findParts_51 rfl rfl rfl ?_
    refine gf_Gr_36 (npc := 55) dX2_findParts_52 rfl rfl ?_
    refine g_aload_n (npc := 56) dX2_findParts_55 rfl rfl rfl ?_
    refine gf_Gr_25 (npc := 59) dX2_findParts_56 rfl rfl ?_
    refine g_iload_n (npc := 60) dX2_findParts_59 rfl rfl rfl ?_
    obtain ⟨h9, hT⟩ := hT
    refine g_iald (npc := 61) dX2_findParts_60 rfl (arSL arSC_3) h9 ?_
    obtain ⟨h10, hT⟩ := hT
    refine g_iald (npc := 62) dX2_findParts_61 rfl (arSL arSC_14) h10 ?_
    refine g_istore (npc := 64) (l' := [(0, .ref 1), (1, iV x1), (2, iV x2), (3, iV x3), (4, iV (s 14 (Int.toNat (s 2 (Int.toNat x3))))), (5, iV (s 14 (Int.toNat (s 3 (Int.toNat x3)))))]) dX2_findParts_62 rfl (by decide) rfl ?_
    refine g_iload_n (npc := 65) dX2_findParts_64 rfl rfl rfl ?_
    refine g_iload_n (npc := 66) dX2_findParts_65 rfl rfl rfl ?_
    refine g_ishr (npc := 67) dX2_findParts_66 rfl ?_
    refine g_iconst (npc := 68) dX2_findParts_67 rfl ?_
    refine g_iand (npc := 69) dX2_findParts_68 rfl ?_
    obtain ⟨h11, hTt, hTf⟩ := hT
    refine g_if_eq (npc := 72) (tgt := 90) dX2_findParts_69 rfl (by decide) h11 (fun c12 => ?_) (fun c12 => ?_)
    · replace hT := hTt c12
      refine g_iinc (npc := 93) (y := (x3 + 1)) (l' := [(0, .ref 1), (1, iV x1), (2, iV x2), (3, iV (x3 + 1)), (4, iV (s 14 (Int.toNat (s 2 (Int.toNat x3))))), (5, iV (s 14 (Int.toNat (s 3 (Int.toNat x3)))))]) dX2_findParts_90 rfl (by decide) rfl (by omega) rfl ?_
      refine g_goto (npc := 30) dX2_findParts_93 (by decide) ?_
      refine Go.lsub [0, 1, 2, 3] rfl ?_
      exact hT
    · replace hT := hTf c12
      refine g_iload (npc := 74) dX2_findParts_72 rfl rfl ?_
      refine g_iload (npc := 76) dX2_findParts_74 rfl rfl ?_
      obtain ⟨h13, hTt, hTf⟩ := hT
      refine g_icmp_eq (npc := 79) (tgt := 90) dX2_findParts_76 rfl (by decide) h13 (fun c14 => ?_) (fun c14 => ?_)
      · replace hT := hTt c14
        refine g_iinc (npc := 93) (y := (x3 + 1)) (l' := [(0, .ref 1), (1, iV x1), (2, iV x2), (3, iV (x3 + 1)), (4, iV (s 14 (Int.toNat (s 2 (Int.toNat x3))))), (5, iV (s 14 (Int.toNat (s 3 (Int.toNat x3)))))]) dX2_findParts_90 rfl (by decide) rfl (by omega) rfl ?_
        refine g_goto (npc := 30) dX2_findParts_93 (by decide) ?_
        refine Go.lsub [0, 1, 2, 3] rfl ?_
        exact hT
      · replace hT := hTf c14
        refine g_aload_n (npc := 80) dX2_findParts_79 rfl rfl rfl ?_
        refine g_iload (npc := 82) dX2_findParts_80 rfl rfl ?_
        refine g_iload (npc := 84) dX2_findParts_82 rfl rfl ?_
        obtain ⟨Q15, h16, hT⟩ := hT
        refine iv_Gr_66 (npc := 87) dX2_findParts_84 rfl rfl (Nat.le_of_ble_eq_true rfl) (by decide) (by decide) h16 (fun s17 e19 => ?_)
        replace hT := hT s17 e19
        refine g_iinc (npc := 90) (y := (x2 - 1)) (l' := [(0, .ref 1), (1, iV x1), (2, iV (x2 - 1)), (3, iV x3), (4, iV (s 14 (Int.toNat (s 2 (Int.toNat x3))))), (5, iV (s 14 (Int.toNat (s 3 (Int.toNat x3)))))]) dX2_findParts_87 rfl (by decide) rfl (by omega) rfl ?_
        refine g_iinc (npc := 93) (y := (x3 + 1)) (l' := [(0, .ref 1), (1, iV x1), (2, iV (x2 - 1)), (3, iV (x3 + 1)), (4, iV (s 14 (Int.toNat (s 2 (Int.toNat x3))))), (5, iV (s 14 (Int.toNat (s 3 (Int.toNat x3)))))]) dX2_findParts_90 rfl (by decide) rfl (by omega) rfl ?_
        refine g_goto (npc := 30) dX2_findParts_93 (by decide) ?_
        refine Go.lsub [0, 1, 2, 3] rfl ?_
        exact hT
set_option maxRecDepth 20000 in
theorem e_Gr_findParts {n : Nat} {x1 : Int} {s : Sto} {Q : Int → Sto → Prop} (hT : H_Gr_findParts_2 n Q x1 0 s) : K_Gr_findParts n x1 s Q := by
  refine Sp.body (by decide +kernel) (Nat.le_of_ble_eq_true rfl) ?_
  show Go (SL n) M_Gr_findParts (fI Q) 0 0 0 [(0, .ref 1), (1, iV x1)] [] s
  refine g_iconst (npc := 1) dX2_findParts_0 rfl ?_
  refine g_istore_n (npc := 2) (l' := [(0, .ref 1), (1, iV x1), (2, iV 0)]) dX2_findParts_1 rfl rfl (by decide) rfl ?_
  exact hT
set_option maxRecDepth 20000 in
theorem e_Gr_isConnected {n : Nat} {s : Sto} {Q : Int → Sto → Prop} (hT : ∃ Q1 : Int → Sto → Prop, K_Gr_allEdges n s Q1 ∧ ∀ r4 s3, Q1 r4 s3 → ∃ Q6 : Int → Sto → Prop, K_Gr_findParts n r4 s3 Q6 ∧ ∀ r9 s8, Q6 r9 s8 → (-2147483648 ≤ r9 ∧ r9 < 2147483648) ∧ ((¬ r9 = 1) → Q 0 s8) ∧ ((r9 = 1) → Q 1 s8)) : K_Gr_isConnected n s Q := by
  refine Sp.body (by decide +kernel) (Nat.le_of_ble_eq_true rfl) ?_
  show Go (SL n) M_Gr_isConnected (fI Q) 0 0 0 [(0, .ref 1)] [] s
  refine g_aload_n (npc := 1) dX2_isConnected_0 rfl rfl rfl ?_
  refine g_aload_n (npc := 2) dX2_isConnected_1 rfl rfl rfl ?_
  obtain ⟨Q1, h2, hT⟩ := hT
  refine iv_Gr_54 (npc := 5) dX2_isConnected_2 rfl rfl (Nat.le_of_ble_eq_true rfl) (by decide) (by decide) h2 (fun r4 s3 e5 => ?_)
  replace hT := hT r4 s3 e5
  obtain ⟨Q6, h7, hT⟩ := hT
  refine iv_Gr_58 (npc := 8) dX2_isConnected_5 rfl rfl (Nat.le_of_ble_eq_true rfl) (by decide) (by decide) h7 (fun r9 s8 e10 => ?_)
  replace hT := hT r9 s8 e10
  refine g_iconst (npc := 9) dX2_isConnected_8 rfl ?_
  obtain ⟨h11, hTt, hTf⟩ := hT
  refine g_icmp_ne (npc := 12) (tgt := 16) dX2_isConnected_9 rfl (by decide) ⟨h11, by decide, by decide⟩ (fun c12 => ?_) (fun c12 => ?_)
  · replace hT := hTt c12
    refine g_iconst (npc := 17) dX2_isConnected_16 rfl ?_
    exact g_iret dX2_isConnected_17 rfl (by decide) (by decide) ⟨_, rfl, hT⟩
  · replace hT := hTf (Decidable.not_not.mp c12)
    refine g_iconst (npc := 13) dX2_isConnected_12 rfl ?_
    refine g_goto (npc := 17) dX2_isConnected_13 (by decide) ?_
    exact g_iret dX2_isConnected_17 rfl (by decide) (by decide) ⟨_, rfl, hT⟩
set_option maxRecDepth 20000 in
theorem e_Gr_degreeOf {n : Nat} {x1 : Int} {s : Sto} {Q : Int → Sto → Prop} (hT : ∃ Q1 : Int → Sto → Prop, K_Gr_hasNode n x1 s Q1 ∧ ∀ r4 s3, Q1 r4 s3 → (-2147483648 ≤ r4 ∧ r4 < 2147483648) ∧ ((r4 = 0) → Q 0 s3) ∧ ((¬ r4 = 0) → (0 ≤ x1 ∧ x1 < 8) ∧ Q (s3 13 (Int.toNat x1)) s3)) : K_Gr_degreeOf n x1 s Q := by
  refine Sp.body (by decide +kernel) (Nat.le_of_ble_eq_true rfl) ?_
  show Go (SL n) M_Gr_degreeOf (fI Q) 0 0 0 [(0, .ref 1), (1, iV x1)] [] s
  refine g_aload_n (npc := 1) dX2_degreeOf_0 rfl rfl rfl ?_
  refine g_iload_n (npc := 2) dX2_degreeOf_1 rfl rfl rfl ?_
  obtain ⟨Q1, h2, hT⟩ := hT
  refine iv_Gr_39 (npc := 5) dX2_degreeOf_2 rfl rfl (Nat.le_of_ble_eq_true rfl) (by decide) (by decide) h2 (fun r4 s3 e5 => ?_)
  replace hT := hT r4 s3 e5
  obtain ⟨h6, hTt, hTf⟩ := hT
  refine g_if_eq (npc := 8) (tgt := 17) dX2_degreeOf_5 rfl (by decide) h6 (fun c7 => ?_) (fun c7 => ?_)
  · replace hT := hTt c7
    refine g_iconst (npc := 18) dX2_degreeOf_17 rfl ?_
    exact g_iret dX2_degreeOf_18 rfl rfl (by decide) ⟨_, rfl, hT⟩
  · replace hT := hTf c7
    refine g_aload_n (npc := 9) dX2_degreeOf_8 rfl rfl rfl ?_
    refine gf_Gr_33 (npc := 12) dX2_degreeOf_9 rfl rfl ?_
    refine g_iload_n (npc := 13) dX2_degreeOf_12 rfl rfl rfl ?_
    obtain ⟨h8, hT⟩ := hT
    refine g_iald (npc := 14) dX2_degreeOf_13 rfl (arSL arSC_13) h8 ?_
    refine g_goto (npc := 18) dX2_degreeOf_14 (by decide) ?_
    exact g_iret dX2_degreeOf_18 rfl rfl (by decide) ⟨_, rfl, hT⟩
set_option maxRecDepth 20000 in
theorem e_Gr_edgesAwayFromSink {n : Nat} {s : Sto} {Q : Int → Sto → Prop} (hT : ∃ Q1 : Int → Sto → Prop, K_Gr_degreeOf n (s 1 2) s Q1 ∧ ∀ r4 s3, Q1 r4 s3 → Q ((s 1 1) - r4) s3) : K_Gr_edgesAwayFromSink n s Q := by
  refine Sp.body (by decide +kernel) (Nat.le_of_ble_eq_true rfl) ?_
  show Go (SL n) M_Gr_edgesAwayFromSink (fI Q) 0 0 0 [(0, .ref 1)] [] s
  refine g_aload_n (npc := 1) dX2_edgesAwayFromSink_0 rfl rfl rfl ?_
  refine gf_Gr_15 (npc := 4) dX2_edgesAwayFromSink_1 rfl rfl ?_
  refine g_aload_n (npc := 5) dX2_edgesAwayFromSink_4 rfl rfl rfl ?_
  refine g_aload_n (npc := 6) dX2_edgesAwayFromSink_5 rfl rfl rfl ?_
  refine gf_Gr_18 (npc := 9) dX2_edgesAwayFromSink_6 rfl rfl ?_
  obtain ⟨Q1, h2, hT⟩ := hT
  refine iv_Gr_50 (npc := 12) dX2_edgesAwayFromSink_9 rfl rfl (Nat.le_of_ble_eq_true rfl) (by decide) (by decide) h2 (fun r4 s3 e5 => ?_)
  replace hT := hT r4 s3 e5
  refine g_isub (npc := 13) dX2_edgesAwayFromSink_12 rfl ?_
  exact g_iret dX2_edgesAwayFromSink_13 rfl rfl (by decide) ⟨_, rfl, hT⟩
set_option maxRecDepth 20000 in
theorem e_Gr_hasChipsAt {n : Nat} {x1 : Int} {s : Sto} {Q : Int → Sto → Prop} (hT : ∃ Q1 : Int → Sto → Prop, K_Gr_hasNode n x1 s Q1 ∧ ∀ r4 s3, Q1 r4 s3 → (-2147483648 ≤ r4 ∧ r4 < 2147483648) ∧ ((r4 = 0) → Q 0 s3) ∧ ((¬ r4 = 0) → ((-2147483648 ≤ x1 ∧ x1 < 2147483648) ∧ -2147483648 ≤ (s3 1 2) ∧ (s3 1 2) < 2147483648) ∧ ((x1 = (s3 1 2)) → Q 0 s3) ∧ ((¬ x1 = (s3 1 2)) → Q 1 s3))) : K_Gr_hasChipsAt n x1 s Q := by
  refine Sp.body (by decide +kernel) (Nat.le_of_ble_eq_true rfl) ?_
  show Go (SL n) M_Gr_hasChipsAt (fI Q) 0 0 0 [(0, .ref 1), (1, iV x1)] [] s
  refine g_aload_n (npc := 1) dX2_hasChipsAt_0 rfl rfl rfl ?_
  refine g_iload_n (npc := 2) dX2_hasChipsAt_1 rfl rfl rfl ?_
  obtain ⟨Q1, h2, hT⟩ := hT
  refine iv_Gr_39 (npc := 5) dX2_hasChipsAt_2 rfl rfl (Nat.le_of_ble_eq_true rfl) (by decide) (by decide) h2 (fun r4 s3 e5 => ?_)
  replace hT := hT r4 s3 e5
  obtain ⟨h6, hTt, hTf⟩ := hT
  refine g_if_eq (npc := 8) (tgt := 20) dX2_hasChipsAt_5 rfl (by decide) h6 (fun c7 => ?_) (fun c7 => ?_)
  · replace hT := hTt c7
    refine g_iconst (npc := 21) dX2_hasChipsAt_20 rfl ?_
    exact g_iret dX2_hasChipsAt_21 rfl (by decide) (by decide) ⟨_, rfl, hT⟩
  · replace hT := hTf c7
    refine g_iload_n (npc := 9) dX2_hasChipsAt_8 rfl rfl rfl ?_
    refine g_aload_n (npc := 10) dX2_hasChipsAt_9 rfl rfl rfl ?_
    refine gf_Gr_18 (npc := 13) dX2_hasChipsAt_10 rfl rfl ?_
    obtain ⟨h8, hTt, hTf⟩ := hT
    refine g_icmp_eq (npc := 16) (tgt := 20) dX2_hasChipsAt_13 rfl (by decide) h8 (fun c9 => ?_) (fun c9 => ?_)
    · replace hT := hTt c9
      refine g_iconst (npc := 21) dX2_hasChipsAt_20 rfl ?_
      exact g_iret dX2_hasChipsAt_21 rfl (by decide) (by decide) ⟨_, rfl, hT⟩
    · replace hT := hTf c9
      refine g_iconst (npc := 17) dX2_hasChipsAt_16 rfl ?_
      refine g_goto (npc := 21) dX2_hasChipsAt_17 (by decide) ?_
      exact g_iret dX2_hasChipsAt_21 rfl (by decide) (by decide) ⟨_, rfl, hT⟩
set_option maxRecDepth 20000 in
theorem e_Gr_isSpanningTree {n : Nat} {x1 : Int} {s : Sto} {Q : Int → Sto → Prop} (hT : (-2147483648 ≤ x1 ∧ x1 < 2147483648) ∧ ((x1 < 0) → Q 0 s) ∧ ((0 ≤ x1) → ∃ Q3 : Int → Sto → Prop, K_Gr_allEdges n s Q3 ∧ ∀ r6 s5, Q3 r6 s5 → (-2147483648 ≤ (iand x1 (ixor r6 (-1))) ∧ (iand x1 (ixor r6 (-1))) < 2147483648) ∧ ((¬ (iand x1 (ixor r6 (-1))) = 0) → Q 0 s5) ∧ (((iand x1 (ixor r6 (-1))) = 0) → ∃ Q10 : Int → Sto → Prop, K_JI_bitCount n x1 s5 Q10 ∧ ∀ r13 s12, Q10 r13 s12 → ((-2147483648 ≤ r13 ∧ r13 < 2147483648) ∧ -2147483648 ≤ ((s12 1 0) - 1) ∧ ((s12 1 0) - 1) < 2147483648) ∧ ((¬ r13 = ((s12 1 0) - 1)) → Q 0 s12) ∧ ((r13 = ((s12 1 0) - 1)) → ∃ Q17 : Int → Sto → Prop, K_Gr_findParts n x1 s12 Q17 ∧ ∀ r20 s19, Q17 r20 s19 → (-2147483648 ≤ r20 ∧ r20 < 2147483648) ∧ ((¬ r20 = 1) → Q 0 s19) ∧ ((r20 = 1) → Q 1 s19))))) : K_Gr_isSpanningTree n x1 s Q := by
  refine Sp.body (by decide +kernel) (Nat.le_of_ble_eq_true rfl) ?_
  show Go (SL n) M_Gr_isSpanningTree (fI Q) 0 0 0 [(0, .ref 1), (1, iV x1)] [] s
  refine g_iload_n (npc := 1) dX2_isSpanningTree_0 rfl rfl rfl ?_
  obtain ⟨h1, hTt, hTf⟩ := hT
  refine g_if_lt (npc := 4) (tgt := 41) dX2_isSpanningTree_1 rfl (by decide) h1 (fun c2 => ?_) (fun c2 => ?_)
  · replace hT := hTt c2
    refine g_iconst (npc := 42) dX2_isSpanningTree_41 rfl ?_
    exact g_iret dX2_isSpanningTree_42 rfl (by decide) (by decide) ⟨_, rfl, hT⟩
  · replace hT := hTf (Int.not_lt.mp c2)
    refine g_iload_n (npc := 5) dX2_isSpanningTree_4 rfl rfl rfl ?_
    refine g_aload_n (npc := 6) dX2_isSpanningTree_5 rfl rfl rfl ?_
    obtain ⟨Q3, h4, hT⟩ := hT
    refine iv_Gr_54 (npc := 9) dX2_isSpanningTree_6 rfl rfl (Nat.le_of_ble_eq_true rfl) (by decide) (by decide) h4 (fun r6 s5 e7 => ?_)
    replace hT := hT r6 s5 e7
    refine g_iconst (npc := 10) dX2_isSpanningTree_9 rfl ?_
    refine g_ixor (npc := 11) dX2_isSpanningTree_10 rfl ?_
    refine g_iand (npc := 12) dX2_isSpanningTree_11 rfl ?_
    obtain ⟨h8, hTt, hTf⟩ := hT
    refine g_if_ne (npc := 15) (tgt := 41) dX2_isSpanningTree_12 rfl (by decide) h8 (fun c9 => ?_) (fun c9 => ?_)
    · replace hT := hTt c9
      refine g_iconst (npc := 42) dX2_isSpanningTree_41 rfl ?_
      exact g_iret dX2_isSpanningTree_42 rfl (by decide) (by decide) ⟨_, rfl, hT⟩
    · replace hT := hTf (Decidable.not_not.mp c9)
      refine g_iload_n (npc := 16) dX2_isSpanningTree_15 rfl rfl rfl ?_
      obtain ⟨Q10, h11, hT⟩ := hT
      refine iv_Gr_61 (npc := 19) dX2_isSpanningTree_16 rfl rfl (Nat.le_of_ble_eq_true rfl) (by decide) (by decide) h11 (fun r13 s12 e14 => ?_)
      replace hT := hT r13 s12 e14
      refine g_aload_n (npc := 20) dX2_isSpanningTree_19 rfl rfl rfl ?_
      refine gf_Gr_9 (npc := 23) dX2_isSpanningTree_20 rfl rfl ?_
      refine g_iconst (npc := 24) dX2_isSpanningTree_23 rfl ?_
      refine g_isub (npc := 25) dX2_isSpanningTree_24 rfl ?_
      obtain ⟨h15, hTt, hTf⟩ := hT
      refine g_icmp_ne (npc := 28) (tgt := 41) dX2_isSpanningTree_25 rfl (by decide) h15 (fun c16 => ?_) (fun c16 => ?_)
      · replace hT := hTt c16
        refine g_iconst (npc := 42) dX2_isSpanningTree_41 rfl ?_
        exact g_iret dX2_isSpanningTree_42 rfl (by decide) (by decide) ⟨_, rfl, hT⟩
      · replace hT := hTf (Decidable.not_not.mp c16)
        refine g_aload_n (npc := 29) dX2_isSpanningTree_28 rfl rfl rfl ?_
        refine g_iload_n (npc := 30) dX2_isSpanningTree_29 rfl rfl rfl ?_
        obtain ⟨Q17, h18, hT⟩ := hT
        refine iv_Gr_58 (npc := 33) dX2_isSpanningTree_30 rfl rfl (Nat.le_of_ble_eq_true rfl) (by decide) (by decide) h18 (fun r20 s19 e21 => ?_)
        replace hT := hT r20 s19 e21
        refine g_iconst (npc := 34) dX2_isSpanningTree_33 rfl ?_
        obtain ⟨h22, hTt, hTf⟩ := hT
        refine g_icmp_ne (npc := 37) (tgt := 41) dX2_isSpanningTree_34 rfl (by decide) ⟨h22, by decide, by decide⟩ (fun c23 => ?_) (fun c23 => ?_)
        · replace hT := hTt c23
          refine g_iconst (npc := 42) dX2_isSpanningTree_41 rfl ?_
          exact g_iret dX2_isSpanningTree_42 rfl (by decide) (by decide) ⟨_, rfl, hT⟩
        · replace hT := hTf (Decidable.not_not.mp c23)
          refine g_iconst (npc := 38) dX2_isSpanningTree_37 rfl ?_
          refine g_goto (npc := 42) dX2_isSpanningTree_38 (by decide) ?_
          exact g_iret dX2_isSpanningTree_42 rfl (by decide) (by decide) ⟨_, rfl, hT⟩
