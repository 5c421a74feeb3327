theorem dX9_adopt_43 : decode cX9_adopt 43 = .ok (.invokevirtual 307, 3) := by decide +kernel
theorem dX9_adopt_46 : decode cX9_adopt 46 = .ok (.aload_n 0, 1) := by decide +kernel
theorem dX9_adopt_47 : decode cX9_adopt 47 = .ok (.getfield 19, 3) := by decide +kernel
theorem dX9_adopt_50 : decode cX9_adopt 50 = .ok (.getfield 153, 3) := by decide +kernel
theorem dX9_adopt_53 : decode cX9_adopt 53 = .ok (.iload_n 2, 1) := by decide +kernel
theorem dX9_adopt_54 : decode cX9_adopt 54 = .ok (.iload_n 1, 1) := by decide +kernel
theorem dX9_adopt_55 : decode cX9_adopt 55 = .ok (.invokestatic 325, 3) := by decide +kernel
theorem dX9_adopt_58 : decode cX9_adopt 58 = .ok (.aload_n 0, 1) := by decide +kernel
theorem dX9_adopt_59 : decode cX9_adopt 59 = .ok (.invokevirtual 314, 3) := by decide +kernel
theorem dX9_adopt_62 : decode cX9_adopt 62 = .ok (.aload_n 0, 1) := by decide +kernel
theorem dX9_adopt_63 : decode cX9_adopt 63 = .ok (.getfield 19, 3) := by decide +kernel
theorem dX9_adopt_66 : decode cX9_adopt 66 = .ok (.getfield 150, 3) := by decide +kernel
theorem dX9_adopt_69 : decode cX9_adopt 69 = .ok (.iload_n 2, 1) := by decide +kernel
theorem dX9_adopt_70 : decode cX9_adopt 70 = .ok (.invokestatic 146, 3) := by decide +kernel
theorem dX9_adopt_73 : decode cX9_adopt 73 = .ok (.ireturn, 1) := by decide +kernel
theorem dX9_release_0 : decode cX9_release 0 = .ok (.aload_n 0, 1) := by decide +kernel
theorem dX9_release_1 : decode cX9_release 1 = .ok (.iload_n 1, 1) := by decide +kernel
theorem dX9_release_2 : decode cX9_release 2 = .ok (.invokevirtual 139, 3) := by decide +kernel
theorem dX9_release_5 : decode cX9_release 5 = .ok (.aload_n 0, 1) := by decide +kernel
theorem dX9_release_6 : decode cX9_release 6 = .ok (.getfield 19, 3) := by decide +kernel
theorem dX9_release_9 : decode cX9_release 9 = .ok (.getfield 153, 3) := by decide +kernel
theorem dX9_release_12 : decode cX9_release 12 = .ok (.iload_n 1, 1) := by decide +kernel
theorem dX9_release_13 : decode cX9_release 13 = .ok (.invokestatic 146, 3) := by decide +kernel
theorem dX9_release_16 : decode cX9_release 16 = .ok (.istore_n 2, 1) := by decide +kernel
theorem dX9_release_17 : decode cX9_release 17 = .ok (.iload_n 2, 1) := by decide +kernel
theorem dX9_release_18 : decode cX9_release 18 = .ok (.iconst (-1), 1) := by decide +kernel
theorem dX9_release_19 : decode cX9_release 19 = .ok (.if_icmp .ne 6, 3) := by decide +kernel
theorem dX9_release_22 : decode cX9_release 22 = .ok (.bipush (-2), 2) := by decide +kernel
theorem dX9_release_24 : decode cX9_release 24 = .ok (.ireturn, 1) := by decide +kernel
theorem dX9_release_25 : decode cX9_release 25 = .ok (.aload_n 0, 1) := by decide +kernel
theorem dX9_release_26 : decode cX9_release 26 = .ok (.getfield 60, 3) := by decide +kernel
theorem dX9_release_29 : decode cX9_release 29 = .ok (.invokevirtual 307, 3) := by decide +kernel
theorem dX9_release_32 : decode cX9_release 32 = .ok (.aload_n 0, 1) := by decide +kernel
theorem dX9_release_33 : decode cX9_release 33 = .ok (.getfield 19, 3) := by decide +kernel
theorem dX9_release_36 : decode cX9_release 36 = .ok (.getfield 153, 3) := by decide +kernel
theorem dX9_release_39 : decode cX9_release 39 = .ok (.iload_n 1, 1) := by decide +kernel
theorem dX9_release_40 : decode cX9_release 40 = .ok (.iconst (-1), 1) := by decide +kernel
theorem dX9_release_41 : decode cX9_release 41 = .ok (.invokestatic 325, 3) := by decide +kernel
theorem dX9_release_44 : decode cX9_release 44 = .ok (.aload_n 0, 1) := by decide +kernel
theorem dX9_release_45 : decode cX9_release 45 = .ok (.invokevirtual 314, 3) := by decide +kernel
theorem dX9_release_48 : decode cX9_release 48 = .ok (.iload_n 2, 1) := by decide +kernel
theorem dX9_release_49 : decode cX9_release 49 = .ok (.ireturn, 1) := by decide +kernel
theorem dX9_swap_0 : decode cX9_swap 0 = .ok (.aload_n 0, 1) := by decide +kernel
theorem dX9_swap_1 : decode cX9_swap 1 = .ok (.iload_n 1, 1) := by decide +kernel
theorem dX9_swap_2 : decode cX9_swap 2 = .ok (.iload_n 2, 1) := by decide +kernel
theorem dX9_swap_3 : decode cX9_swap 3 = .ok (.invokevirtual 235, 3) := by decide +kernel
theorem dX9_swap_6 : decode cX9_swap 6 = .ok (.aload_n 0, 1) := by decide +kernel
theorem dX9_swap_7 : decode cX9_swap 7 = .ok (.iload_n 1, 1) := by decide +kernel
theorem dX9_swap_8 : decode cX9_swap 8 = .ok (.iload_n 3, 1) := by decide +kernel
theorem dX9_swap_9 : decode cX9_swap 9 = .ok (.invokevirtual 235, 3) := by decide +kernel
theorem dX9_swap_12 : decode cX9_swap 12 = .ok (.aload_n 0, 1) := by decide +kernel
theorem dX9_swap_13 : decode cX9_swap 13 = .ok (.getfield 60, 3) := by decide +kernel
theorem dX9_swap_16 : decode cX9_swap 16 = .ok (.invokevirtual 307, 3) := by decide +kernel
theorem dX9_swap_19 : decode cX9_swap 19 = .ok (.aload_n 0, 1) := by decide +kernel
theorem dX9_swap_20 : decode cX9_swap 20 = .ok (.getfield 35, 3) := by decide +kernel
theorem dX9_swap_23 : decode cX9_swap 23 = .ok (.iload_n 1, 1) := by decide +kernel
theorem dX9_swap_24 : decode cX9_swap 24 = .ok (.iload_n 2, 1) := by decide +kernel
theorem dX9_swap_25 : decode cX9_swap 25 = .ok (.iload_n 3, 1) := by decide +kernel
theorem dX9_swap_26 : decode cX9_swap 26 = .ok (.invokevirtual 268, 3) := by decide +kernel
theorem dX9_swap_29 : decode cX9_swap 29 = .ok (.aload_n 0, 1) := by decide +kernel
theorem dX9_swap_30 : decode cX9_swap 30 = .ok (.getfield 35, 3) := by decide +kernel
theorem dX9_swap_33 : decode cX9_swap 33 = .ok (.invokevirtual 259, 3) := by decide +kernel
theorem dX9_swap_36 : decode cX9_swap 36 = .ok (.ireturn, 1) := by decide +kernel
theorem dX9_improve_0 : decode cX9_improve 0 = .ok (.iload_n 1, 1) := by decide +kernel
theorem dX9_improve_1 : decode cX9_improve 1 = .ok (.ifCond .lt 8, 3) := by decide +kernel
theorem dX9_improve_4 : decode cX9_improve 4 = .ok (.iload_n 1, 1) := by decide +kernel
theorem dX9_improve_5 : decode cX9_improve 5 = .ok (.iconst 5, 1) := by decide +kernel
theorem dX9_improve_6 : decode cX9_improve 6 = .ok (.if_icmp .le 14, 3) := by decide +kernel
theorem dX9_improve_9 : decode cX9_improve 9 = .ok (.new 94, 3) := by decide +kernel
theorem dX9_improve_12 : decode cX9_improve 12 = .ok (.dup, 1) := by decide +kernel
theorem dX9_improve_13 : decode cX9_improve 13 = .ok (.ldc_w 329, 3) := by decide +kernel
theorem dX9_improve_16 : decode cX9_improve 16 = .ok (.invokespecial 98, 3) := by decide +kernel
theorem dX9_improve_19 : decode cX9_improve 19 = .ok (.athrow, 1) := by decide +kernel
theorem dX9_improve_20 : decode cX9_improve 20 = .ok (.aload_n 0, 1) := by decide +kernel
theorem dX9_improve_21 : decode cX9_improve 21 = .ok (.getfield 60, 3) := by decide +kernel
theorem dX9_improve_24 : decode cX9_improve 24 = .ok (.invokevirtual 307, 3) := by decide +kernel
theorem dX9_improve_27 : decode cX9_improve 27 = .ok (.iconst 0, 1) := by decide +kernel
theorem dX9_improve_28 : decode cX9_improve 28 = .ok (.istore_n 2, 1) := by decide +kernel
theorem dX9_improve_29 : decode cX9_improve 29 = .ok (.iconst 0, 1) := by decide +kernel
theorem dX9_improve_30 : decode cX9_improve 30 = .ok (.istore_n 3, 1) := by decide +kernel
theorem dX9_improve_31 : decode cX9_improve 31 = .ok (.iload_n 3, 1) := by decide +kernel
theorem dX9_improve_32 : decode cX9_improve 32 = .ok (.iload_n 1, 1) := by decide +kernel
theorem dX9_improve_33 : decode cX9_improve 33 = .ok (.if_icmp .ge 31, 3) := by decide +kernel
theorem dX9_improve_36 : decode cX9_improve 36 = .ok (.aload_n 0, 1) := by decide +kernel
theorem dX9_improve_37 : decode cX9_improve 37 = .ok (.getfield 35, 3) := by decide +kernel
theorem dX9_improve_40 : decode cX9_improve 40 = .ok (.invokevirtual 331, 3) := by decide +kernel
theorem dX9_improve_43 : decode cX9_improve 43 = .ok (.istore 4, 2) := by decide +kernel
theorem dX9_improve_45 : decode cX9_improve 45 = .ok (.iload 4, 2) := by decide +kernel
theorem dX9_improve_47 : decode cX9_improve 47 = .ok (.ifCond .ne 6, 3) := by decide +kernel
theorem dX9_improve_50 : decode cX9_improve 50 = .ok (.goto 14, 3) := by decide +kernel
theorem dX9_improve_53 : decode cX9_improve 53 = .ok (.iload_n 2, 1) := by decide +kernel
theorem dX9_improve_54 : decode cX9_improve 54 = .ok (.iload 4, 2) := by decide +kernel
theorem dX9_improve_56 : decode cX9_improve 56 = .ok (.iadd, 1) := by decide +kernel
theorem dX9_improve_57 : decode cX9_improve 57 = .ok (.istore_n 2, 1) := by decide +kernel
theorem dX9_improve_58 : decode cX9_improve 58 = .ok (.iinc 3 1, 3) := by decide +kernel
theorem dX9_improve_61 : decode cX9_improve 61 = .ok (.goto (-30), 3) := by decide +kernel
theorem dX9_improve_64 : decode cX9_improve 64 = .ok (.iload_n 2, 1) := by decide +kernel
theorem dX9_improve_65 : decode cX9_improve 65 = .ok (.ireturn, 1) := by decide +kernel
theorem dX9_arrange_0 : decode cX9_arrange 0 = .ok (.aload_n 0, 1) := by decide +kernel
theorem dX9_arrange_1 : decode cX9_arrange 1 = .ok (.getfield 60, 3) := by decide +kernel
theorem dX9_arrange_4 : decode cX9_arrange 4 = .ok (.invokevirtual 307, 3) := by decide +kernel
theorem dX9_arrange_7 : decode cX9_arrange 7 = .ok (.aload_n 0, 1) := by decide +kernel
theorem dX9_arrange_8 : decode cX9_arrange 8 = .ok (.getfield 35, 3) := by decide +kernel
theorem dX9_arrange_11 : decode cX9_arrange 11 = .ok (.invokevirtual 334, 3) := by decide +kernel
theorem dX9_arrange_14 : decode cX9_arrange 14 = .ok (.aload_n 0, 1) := by decide +kernel
theorem dX9_arrange_15 : decode cX9_arrange 15 = .ok (.getfield 35, 3) := by decide +kernel
theorem dX9_arrange_18 : decode cX9_arrange 18 = .ok (.invokevirtual 259, 3) := by decide +kernel
theorem dX9_arrange_21 : decode cX9_arrange 21 = .ok (.ireturn, 1) := by decide +kernel
theorem dX9_plain_0 : decode cX9_plain 0 = .ok (.aload_n 0, 1) := by decide +kernel
theorem dX9_plain_1 : decode cX9_plain 1 = .ok (.getfield 60, 3) := by decide +kernel
theorem dX9_plain_4 : decode cX9_plain 4 = .ok (.invokevirtual 307, 3) := by decide +kernel
theorem dX9_plain_7 : decode cX9_plain 7 = .ok (.aload_n 0, 1) := by decide +kernel
theorem dX9_plain_8 : decode cX9_plain 8 = .ok (.getfield 35, 3) := by decide +kernel
theorem dX9_plain_11 : decode cX9_plain 11 = .ok (.invokevirtual 111, 3) := by decide +kernel
theorem dX9_plain_14 : decode cX9_plain 14 = .ok (.return_, 1) := by decide +kernel
theorem dX9_undoCount_0 : decode cX9_undoCount 0 = .ok (.aload_n 0, 1) := by decide +kernel
theorem dX9_undoCount_1 : decode cX9_undoCount 1 = .ok (.getfield 60, 3) := by decide +kernel
theorem dX9_undoCount_4 : decode cX9_undoCount 4 = .ok (.getfield 337, 3) := by decide +kernel
theorem dX9_undoCount_7 : decode cX9_undoCount 7 = .ok (.ireturn, 1) := by decide +kernel
theorem dX9_undo_0 : decode cX9_undo 0 = .ok (.aload_n 0, 1) := by decide +kernel
theorem dX9_undo_1 : decode cX9_undo 1 = .ok (.getfield 60, 3) := by decide +kernel
theorem dX9_undo_4 : decode cX9_undo 4 = .ok (.getfield 337, 3) := by decide +kernel
theorem dX9_undo_7 : decode cX9_undo 7 = .ok (.ifCond .gt 5, 3) := by decide +kernel
theorem dX9_undo_10 : decode cX9_undo 10 = .ok (.iconst (-1), 1) := by decide +kernel
theorem dX9_undo_11 : decode cX9_undo 11 = .ok (.ireturn, 1) := by decide +kernel
theorem dX9_undo_12 : decode cX9_undo 12 = .ok (.aload_n 0, 1) := by decide +kernel
theorem dX9_undo_13 : decode cX9_undo 13 = .ok (.getfield 60, 3) := by decide +kernel
theorem dX9_undo_16 : decode cX9_undo 16 = .ok (.invokevirtual 340, 3) := by decide +kernel
theorem dX9_undo_19 : decode cX9_undo 19 = .ok (.aload_n 0, 1) := by decide +kernel
theorem dX9_undo_20 : decode cX9_undo 20 = .ok (.getfield 60, 3) := by decide +kernel
theorem dX9_undo_23 : decode cX9_undo 23 = .ok (.getfield 337, 3) := by decide +kernel
theorem dX9_undo_26 : decode cX9_undo 26 = .ok (.ireturn, 1) := by decide +kernel
theorem dX9_saveSnapshot_0 : decode cX9_saveSnapshot 0 = .ok (.aload_n 0, 1) := by decide +kernel
theorem dX9_saveSnapshot_1 : decode cX9_saveSnapshot 1 = .ok (.getfield 60, 3) := by decide +kernel
theorem dX9_saveSnapshot_4 : decode cX9_saveSnapshot 4 = .ok (.invokevirtual 343, 3) := by decide +kernel
theorem dX9_saveSnapshot_7 : decode cX9_saveSnapshot 7 = .ok (.return_, 1) := by decide +kernel
theorem dX9_restoreSnapshot_0 : decode cX9_restoreSnapshot 0 = .ok (.aload_n 0, 1) := by decide +kernel
theorem dX9_restoreSnapshot_1 : decode cX9_restoreSnapshot 1 = .ok (.getfield 60, 3) := by decide +kernel
theorem dX9_restoreSnapshot_4 : decode cX9_restoreSnapshot 4 = .ok (.getfield 346, 3) := by decide +kernel
theorem dX9_restoreSnapshot_7 : decode cX9_restoreSnapshot 7 = .ok (.ifCond .ne 5, 3) := by decide +kernel
theorem dX9_restoreSnapshot_10 : decode cX9_restoreSnapshot 10 = .ok (.iconst 0, 1) := by decide +kernel
theorem dX9_restoreSnapshot_11 : decode cX9_restoreSnapshot 11 = .ok (.ireturn, 1) := by decide +kernel
theorem dX9_restoreSnapshot_12 : decode cX9_restoreSnapshot 12 = .ok (.aload_n 0, 1) := by decide +kernel
theorem dX9_restoreSnapshot_13 : decode cX9_restoreSnapshot 13 = .ok (.getfield 60, 3) := by decide +kernel
theorem dX9_restoreSnapshot_16 : decode cX9_restoreSnapshot 16 = .ok (.invokevirtual 350, 3) := by decide +kernel
theorem dX9_restoreSnapshot_19 : decode cX9_restoreSnapshot 19 = .ok (.iconst 1, 1) := by decide +kernel
theorem dX9_restoreSnapshot_20 : decode cX9_restoreSnapshot 20 = .ok (.ireturn, 1) := by decide +kernel
theorem dX9_query_0 : decode cX9_query 0 = .ok (.iload_n 1, 1) := by decide +kernel
theorem dX9_query_1 : decode cX9_query 1 = .ok (.ifCond .lt 21, 3) := by decide +kernel
theorem dX9_query_4 : decode cX9_query 4 = .ok (.iload_n 1, 1) := by decide +kernel
theorem dX9_query_5 : decode cX9_query 5 = .ok (.sipush 200, 3) := by decide +kernel
theorem dX9_query_8 : decode cX9_query 8 = .ok (.if_icmp .gt 14, 3) := by decide +kernel
theorem dX9_query_11 : decode cX9_query 11 = .ok (.iload_n 1, 1) := by decide +kernel
theorem dX9_query_12 : decode cX9_query 12 = .ok (.aload_n 0, 1) := by decide +kernel
theorem dX9_query_13 : decode cX9_query 13 = .ok (.getfield 12, 3) := by decide +kernel
theorem dX9_query_16 : decode cX9_query 16 = .ok (.getfield 90, 3) := by decide +kernel
theorem dX9_query_19 : decode cX9_query 19 = .ok (.if_icmp .le 14, 3) := by decide +kernel
theorem dX9_query_22 : decode cX9_query 22 = .ok (.new 94, 3) := by decide +kernel
theorem dX9_query_25 : decode cX9_query 25 = .ok (.dup, 1) := by decide +kernel
theorem dX9_query_26 : decode cX9_query 26 = .ok (.ldc_w 353, 3) := by decide +kernel
theorem dX9_query_29 : decode cX9_query 29 = .ok (.invokespecial 98, 3) := by decide +kernel
theorem dX9_query_32 : decode cX9_query 32 = .ok (.athrow, 1) := by decide +kernel
theorem dX9_query_33 : decode cX9_query 33 = .ok (.aload_n 0, 1) := by decide +kernel
theorem dX9_query_34 : decode cX9_query 34 = .ok (.getfield 78, 3) := by decide +kernel
theorem dX9_query_37 : decode cX9_query 37 = .ok (.iload_n 1, 1) := by decide +kernel
theorem dX9_query_38 : decode cX9_query 38 = .ok (.invokevirtual 355, 3) := by decide +kernel
theorem dX9_query_41 : decode cX9_query 41 = .ok (.ireturn, 1) := by decide +kernel
theorem dX9_renewRows_0 : decode cX9_renewRows 0 = .ok (.aload_n 0, 1) := by decide +kernel
theorem dX9_renewRows_1 : decode cX9_renewRows 1 = .ok (.getfield 19, 3) := by decide +kernel
theorem dX9_renewRows_4 : decode cX9_renewRows 4 = .ok (.invokevirtual 356, 3) := by decide +kernel
theorem dX9_renewRows_7 : decode cX9_renewRows 7 = .ok (.aload_n 0, 1) := by decide +kernel
theorem dX9_renewRows_8 : decode cX9_renewRows 8 = .ok (.getfield 35, 3) := by decide +kernel
theorem dX9_renewRows_11 : decode cX9_renewRows 11 = .ok (.invokevirtual 111, 3) := by decide +kernel
theorem dX9_renewRows_14 : decode cX9_renewRows 14 = .ok (.return_, 1) := by decide +kernel
theorem dX9_requirePerson_0 : decode cX9_requirePerson 0 = .ok (.aload_n 0, 1) := by decide +kernel
theorem dX9_requirePerson_1 : decode cX9_requirePerson 1 = .ok (.getfield 19, 3) := by decide +kernel
theorem dX9_requirePerson_4 : decode cX9_requirePerson 4 = .ok (.iload_n 1, 1) := by decide +kernel
theorem dX9_requirePerson_5 : decode cX9_requirePerson 5 = .ok (.invokevirtual 359, 3) := by decide +kernel
theorem dX9_requirePerson_8 : decode cX9_requirePerson 8 = .ok (.ifCond .ne 14, 3) := by decide +kernel
theorem dX9_requirePerson_11 : decode cX9_requirePerson 11 = .ok (.new 162, 3) := by decide +kernel
theorem dX9_requirePerson_14 : decode cX9_requirePerson 14 = .ok (.dup, 1) := by decide +kernel
theorem dX9_requirePerson_15 : decode cX9_requirePerson 15 = .ok (.ldc_w 362, 3) := by decide +kernel
theorem dX9_requirePerson_18 : decode cX9_requirePerson 18 = .ok (.invokespecial 166, 3) := by decide +kernel
theorem dX9_requirePerson_21 : decode cX9_requirePerson 21 = .ok (.athrow, 1) := by decide +kernel
theorem dX9_requirePerson_22 : decode cX9_requirePerson 22 = .ok (.return_, 1) := by decide +kernel
theorem dX9_requireUnion_0 : decode cX9_requireUnion 0 = .ok (.aload_n 0, 1) := by decide +kernel
theorem dX9_requireUnion_1 : decode cX9_requireUnion 1 = .ok (.getfield 19, 3) := by decide +kernel
theorem dX9_requireUnion_4 : decode cX9_requireUnion 4 = .ok (.iload_n 1, 1) := by decide +kernel
theorem dX9_requireUnion_5 : decode cX9_requireUnion 5 = .ok (.invokevirtual 364, 3) := by decide +kernel
theorem dX9_requireUnion_8 : decode cX9_requireUnion 8 = .ok (.ifCond .ne 14, 3) := by decide +kernel
theorem dX9_requireUnion_11 : decode cX9_requireUnion 11 = .ok (.new 162, 3) := by decide +kernel
theorem dX9_requireUnion_14 : decode cX9_requireUnion 14 = .ok (.dup, 1) := by decide +kernel
theorem dX9_requireUnion_15 : decode cX9_requireUnion 15 = .ok (.ldc_w 367, 3) := by decide +kernel
theorem dX9_requireUnion_18 : decode cX9_requireUnion 18 = .ok (.invokespecial 166, 3) := by decide +kernel
theorem dX9_requireUnion_21 : decode cX9_requireUnion 21 = .ok (.athrow, 1) := by decide +kernel
theorem dX9_requireUnion_22 : decode cX9_requireUnion 22 = .ok (.return_, 1) := by decide +kernel
theorem dX9_requireRow_0 : decode cX9_requireRow 0 = .ok (.iload_n 1, 1) := by decide +kernel
theorem dX9_requireRow_1 : decode cX9_requireRow 1 = .ok (.ifCond .lt 14, 3) := by decide +kernel
theorem dX9_requireRow_4 : decode cX9_requireRow 4 = .ok (.iload_n 1, 1) := by decide +kernel
theorem dX9_requireRow_5 : decode cX9_requireRow 5 = .ok (.aload_n 0, 1) := by decide +kernel
theorem dX9_requireRow_6 : decode cX9_requireRow 6 = .ok (.getfield 19, 3) := by decide +kernel
theorem dX9_requireRow_9 : decode cX9_requireRow 9 = .ok (.getfield 126, 3) := by decide +kernel
theorem dX9_requireRow_12 : decode cX9_requireRow 12 = .ok (.if_icmp .lt 14, 3) := by decide +kernel
theorem dX9_requireRow_15 : decode cX9_requireRow 15 = .ok (.new 162, 3) := by decide +kernel
theorem dX9_requireRow_18 : decode cX9_requireRow 18 = .ok (.dup, 1) := by decide +kernel
theorem dX9_requireRow_19 : decode cX9_requireRow 19 = .ok (.ldc_w 369, 3) := by decide +kernel
theorem dX9_requireRow_22 : decode cX9_requireRow 22 = .ok (.invokespecial 166, 3) := by decide +kernel
theorem dX9_requireRow_25 : decode cX9_requireRow 25 = .ok (.athrow, 1) := by decide +kernel
theorem dX9_requireRow_26 : decode cX9_requireRow 26 = .ok (.return_, 1) := by decide +kernel
theorem dX9_requirePlace_0 : decode cX9_requirePlace 0 = .ok (.aload_n 0, 1) := by decide +kernel
theorem dX9_requirePlace_1 : decode cX9_requirePlace 1 = .ok (.iload_n 1, 1) := by decide +kernel
theorem dX9_requirePlace_2 : decode cX9_requirePlace 2 = .ok (.invokevirtual 229, 3) := by decide +kernel
theorem dX9_requirePlace_5 : decode cX9_requirePlace 5 = .ok (.iload_n 2, 1) := by decide +kernel
theorem dX9_requirePlace_6 : decode cX9_requirePlace 6 = .ok (.ifCond .lt 15, 3) := by decide +kernel
theorem dX9_requirePlace_9 : decode cX9_requirePlace 9 = .ok (.iload_n 2, 1) := by decide +kernel
theorem dX9_requirePlace_10 : decode cX9_requirePlace 10 = .ok (.aload_n 0, 1) := by decide +kernel
theorem dX9_requirePlace_11 : decode cX9_requirePlace 11 = .ok (.getfield 35, 3) := by decide +kernel
theorem dX9_requirePlace_14 : decode cX9_requirePlace 14 = .ok (.iload_n 1, 1) := by decide +kernel
theorem dX9_requirePlace_15 : decode cX9_requirePlace 15 = .ok (.invokevirtual 232, 3) := by decide +kernel
theorem dX9_requirePlace_18 : decode cX9_requirePlace 18 = .ok (.if_icmp .lt 14, 3) := by decide +kernel
theorem dX9_requirePlace_21 : decode cX9_requirePlace 21 = .ok (.new 162, 3) := by decide +kernel
theorem dX9_requirePlace_24 : decode cX9_requirePlace 24 = .ok (.dup, 1) := by decide +kernel
theorem dX9_requirePlace_25 : decode cX9_requirePlace 25 = .ok (.ldc_w 371, 3) := by decide +kernel
theorem dX9_requirePlace_28 : decode cX9_requirePlace 28 = .ok (.invokespecial 166, 3) := by decide +kernel
theorem dX9_requirePlace_31 : decode cX9_requirePlace 31 = .ok (.athrow, 1) := by decide +kernel
theorem dX9_requirePlace_32 : decode cX9_requirePlace 32 = .ok (.return_, 1) := by decide +kernel
theorem dX9_requireStripWidth_0 : decode cX9_requireStripWidth 0 = .ok (.iload_n 0, 1) := by decide +kernel
theorem dX9_requireStripWidth_1 : decode cX9_requireStripWidth 1 = .ok (.bipush 10, 2) := by decide +kernel
theorem dX9_requireStripWidth_3 : decode cX9_requireStripWidth 3 = .ok (.if_icmp .lt 10, 3) := by decide +kernel
theorem dX9_requireStripWidth_6 : decode cX9_requireStripWidth 6 = .ok (.iload_n 0, 1) := by decide +kernel
theorem dX9_requireStripWidth_7 : decode cX9_requireStripWidth 7 = .ok (.sipush 200, 3) := by decide +kernel
theorem dX9_requireStripWidth_10 : decode cX9_requireStripWidth 10 = .ok (.if_icmp .le 14, 3) := by decide +kernel
theorem dX9_requireStripWidth_13 : decode cX9_requireStripWidth 13 = .ok (.new 94, 3) := by decide +kernel
theorem dX9_requireStripWidth_16 : decode cX9_requireStripWidth 16 = .ok (.dup, 1) := by decide +kernel
theorem dX9_requireStripWidth_17 : decode cX9_requireStripWidth 17 = .ok (.ldc_w 373, 3) := by decide +kernel
theorem dX9_requireStripWidth_20 : decode cX9_requireStripWidth 20 = .ok (.invokespecial 98, 3) := by decide +kernel
theorem dX9_requireStripWidth_23 : decode cX9_requireStripWidth 23 = .ok (.athrow, 1) := by decide +kernel
theorem dX9_requireStripWidth_24 : decode cX9_requireStripWidth 24 = .ok (.return_, 1) := by decide +kernel
theorem dX9_at_0 : decode cX9_at 0 = .ok (.aload_n 0, 1) := by decide +kernel
theorem dX9_at_1 : decode cX9_at 1 = .ok (.ifnull 13, 3) := by decide +kernel
theorem dX9_at_4 : decode cX9_at 4 = .ok (.iload_n 1, 1) := by decide +kernel
theorem dX9_at_5 : decode cX9_at 5 = .ok (.ifCond .lt 9, 3) := by decide +kernel
theorem dX9_at_8 : decode cX9_at 8 = .ok (.iload_n 1, 1) := by decide +kernel
theorem dX9_at_9 : decode cX9_at 9 = .ok (.aload_n 0, 1) := by decide +kernel
theorem dX9_at_10 : decode cX9_at 10 = .ok (.arraylength, 1) := by decide +kernel
theorem dX9_at_11 : decode cX9_at 11 = .ok (.if_icmp .lt 7, 3) := by decide +kernel
theorem dX9_at_14 : decode cX9_at 14 = .ok (.iconst (-1), 1) := by decide +kernel
theorem dX9_at_15 : decode cX9_at 15 = .ok (.goto 6, 3) := by decide +kernel
theorem dX9_at_18 : decode cX9_at 18 = .ok (.aload_n 0, 1) := by decide +kernel
theorem dX9_at_19 : decode cX9_at 19 = .ok (.iload_n 1, 1) := by decide +kernel
theorem dX9_at_20 : decode cX9_at 20 = .ok (.iaload, 1) := by decide +kernel
theorem dX9_at_21 : decode cX9_at 21 = .ok (.ireturn, 1) := by decide +kernel
theorem dX9_put_0 : decode cX9_put 0 = .ok (.aload_n 0, 1) := by decide +kernel
theorem dX9_put_1 : decode cX9_put 1 = .ok (.ifnull 17, 3) := by decide +kernel
theorem dX9_put_4 : decode cX9_put 4 = .ok (.iload_n 1, 1) := by decide +kernel
theorem dX9_put_5 : decode cX9_put 5 = .ok (.ifCond .lt 13, 3) := by decide +kernel
theorem dX9_put_8 : decode cX9_put 8 = .ok (.iload_n 1, 1) := by decide +kernel
theorem dX9_put_9 : decode cX9_put 9 = .ok (.aload_n 0, 1) := by decide +kernel
theorem dX9_put_10 : decode cX9_put 10 = .ok (.arraylength, 1) := by decide +kernel
theorem dX9_put_11 : decode cX9_put 11 = .ok (.if_icmp .ge 7, 3) := by decide +kernel
theorem dX9_put_14 : decode cX9_put 14 = .ok (.aload_n 0, 1) := by decide +kernel
theorem dX9_put_15 : decode cX9_put 15 = .ok (.iload_n 1, 1) := by decide +kernel
theorem dX9_put_16 : decode cX9_put 16 = .ok (.iload_n 2, 1) := by decide +kernel
theorem dX9_put_17 : decode cX9_put 17 = .ok (.iastore, 1) := by decide +kernel
theorem dX9_put_18 : decode cX9_put 18 = .ok (.return_, 1) := by decide +kernel
theorem dX9_fill_0 : decode cX9_fill 0 = .ok (.iconst 0, 1) := by decide +kernel
theorem dX9_fill_1 : decode cX9_fill 1 = .ok (.istore_n 2, 1) := by decide +kernel
theorem dX9_fill_2 : decode cX9_fill 2 = .ok (.aload_n 0, 1) := by decide +kernel
theorem dX9_fill_3 : decode cX9_fill 3 = .ok (.ifnull 19, 3) := by decide +kernel
theorem dX9_fill_6 : decode cX9_fill 6 = .ok (.iload_n 2, 1) := by decide +kernel
theorem dX9_fill_7 : decode cX9_fill 7 = .ok (.aload_n 0, 1) := by decide +kernel
theorem dX9_fill_8 : decode cX9_fill 8 = .ok (.arraylength, 1) := by decide +kernel
theorem dX9_fill_9 : decode cX9_fill 9 = .ok (.if_icmp .ge 13, 3) := by decide +kernel
theorem dX9_fill_12 : decode cX9_fill 12 = .ok (.aload_n 0, 1) := by decide +kernel
theorem dX9_fill_13 : decode cX9_fill 13 = .ok (.iload_n 2, 1) := by decide +kernel
theorem dX9_fill_14 : decode cX9_fill 14 = .ok (.iload_n 1, 1) := by decide +kernel
theorem dX9_fill_15 : decode cX9_fill 15 = .ok (.iastore, 1) := by decide +kernel
theorem dX9_fill_16 : decode cX9_fill 16 = .ok (.iinc 2 1, 3) := by decide +kernel
theorem dX9_fill_19 : decode cX9_fill 19 = .ok (.goto (-17), 3) := by decide +kernel
theorem dX9_fill_22 : decode cX9_fill 22 = .ok (.return_, 1) := by decide +kernel
theorem dX9_copyCells_0 : decode cX9_copyCells 0 = .ok (.iconst 0, 1) := by decide +kernel
theorem dX9_copyCells_1 : decode cX9_copyCells 1 = .ok (.istore 5, 2) := by decide +kernel
theorem dX9_copyCells_3 : decode cX9_copyCells 3 = .ok (.iload 5, 2) := by decide +kernel
theorem dX9_copyCells_5 : decode cX9_copyCells 5 = .ok (.iload 4, 2) := by decide +kernel
theorem dX9_copyCells_7 : decode cX9_copyCells 7 = .ok (.if_icmp .ge 25, 3) := by decide +kernel
theorem dX9_copyCells_10 : decode cX9_copyCells 10 = .ok (.aload_n 2, 1) := by decide +kernel
theorem dX9_copyCells_11 : decode cX9_copyCells 11 = .ok (.iload_n 3, 1) := by decide +kernel
theorem dX9_copyCells_12 : decode cX9_copyCells 12 = .ok (.iload 5, 2) := by decide +kernel
theorem dX9_copyCells_14 : decode cX9_copyCells 14 = .ok (.iadd, 1) := by decide +kernel
theorem dX9_copyCells_15 : decode cX9_copyCells 15 = .ok (.aload_n 0, 1) := by decide +kernel
theorem dX9_copyCells_16 : decode cX9_copyCells 16 = .ok (.iload_n 1, 1) := by decide +kernel
theorem dX9_copyCells_17 : decode cX9_copyCells 17 = .ok (.iload 5, 2) := by decide +kernel
theorem dX9_copyCells_19 : decode cX9_copyCells 19 = .ok (.iadd, 1) := by decide +kernel
theorem dX9_copyCells_20 : decode cX9_copyCells 20 = .ok (.invokestatic 146, 3) := by decide +kernel
theorem dX9_copyCells_23 : decode cX9_copyCells 23 = .ok (.invokestatic 325, 3) := by decide +kernel
theorem dX9_copyCells_26 : decode cX9_copyCells 26 = .ok (.iinc 5 1, 3) := by decide +kernel
theorem dX9_copyCells_29 : decode cX9_copyCells 29 = .ok (.goto (-26), 3) := by decide +kernel
theorem dX9_copyCells_32 : decode cX9_copyCells 32 = .ok (.return_, 1) := by decide +kernel
theorem dX9_bit_0 : decode cX9_bit 0 = .ok (.iload_n 0, 1) := by decide +kernel
theorem dX9_bit_1 : decode cX9_bit 1 = .ok (.ifCond .lt 9, 3) := by decide +kernel
theorem dX9_bit_4 : decode cX9_bit 4 = .ok (.iload_n 0, 1) := by decide +kernel
theorem dX9_bit_5 : decode cX9_bit 5 = .ok (.bipush 16, 2) := by decide +kernel
theorem dX9_bit_7 : decode cX9_bit 7 = .ok (.if_icmp .lt 7, 3) := by decide +kernel
theorem dX9_bit_10 : decode cX9_bit 10 = .ok (.iconst 0, 1) := by decide +kernel
theorem dX9_bit_11 : decode cX9_bit 11 = .ok (.goto 6, 3) := by decide +kernel
theorem dX9_bit_14 : decode cX9_bit 14 = .ok (.iconst 1, 1) := by decide +kernel
theorem dX9_bit_15 : decode cX9_bit 15 = .ok (.iload_n 0, 1) := by decide +kernel
theorem dX9_bit_16 : decode cX9_bit 16 = .ok (.ishl, 1) := by decide +kernel
theorem dX9_bit_17 : decode cX9_bit 17 = .ok (.ireturn, 1) := by decide +kernel
theorem dX9_unionOfReference_0 : decode cX9_unionOfReference 0 = .ok (.iload_n 0, 1) := by decide +kernel
theorem dX9_unionOfReference_1 : decode cX9_unionOfReference 1 = .ok (.bipush 16, 2) := by decide +kernel
theorem dX9_unionOfReference_3 : decode cX9_unionOfReference 3 = .ok (.if_icmp .ge 7, 3) := by decide +kernel
theorem dX9_unionOfReference_6 : decode cX9_unionOfReference 6 = .ok (.iconst (-1), 1) := by decide +kernel
theorem dX9_unionOfReference_7 : decode cX9_unionOfReference 7 = .ok (.goto 7, 3) := by decide +kernel
theorem dX9_unionOfReference_10 : decode cX9_unionOfReference 10 = .ok (.iload_n 0, 1) := by decide +kernel
theorem dX9_unionOfReference_11 : decode cX9_unionOfReference 11 = .ok (.bipush 16, 2) := by decide +kernel
theorem dX9_unionOfReference_13 : decode cX9_unionOfReference 13 = .ok (.isub, 1) := by decide +kernel
theorem dX9_unionOfReference_14 : decode cX9_unionOfReference 14 = .ok (.ireturn, 1) := by decide +kernel
theorem dX10_init_0 : decode cX10_init 0 = .ok (.aload_n 0, 1) := by decide +kernel
theorem dX10_init_1 : decode cX10_init 1 = .ok (.invokespecial 3, 3) := by decide +kernel
theorem dX10_init_4 : decode cX10_init 4 = .ok (.aload_n 0, 1) := by decide +kernel
theorem dX10_init_5 : decode cX10_init 5 = .ok (.sipush 130, 3) := by decide +kernel
theorem dX10_init_8 : decode cX10_init 8 = .ok (.newarray .long, 2) := by decide +kernel
theorem dX10_init_10 : decode cX10_init 10 = .ok (.putfield 9, 3) := by decide +kernel
theorem dX10_init_13 : decode cX10_init 13 = .ok (.aload_n 0, 1) := by decide +kernel
theorem dX10_init_14 : decode cX10_init 14 = .ok (.sipush 130, 3) := by decide +kernel
theorem dX10_init_17 : decode cX10_init 17 = .ok (.newarray .long, 2) := by decide +kernel
theorem dX10_init_19 : decode cX10_init 19 = .ok (.putfield 13, 3) := by decide +kernel
theorem dX10_init_22 : decode cX10_init 22 = .ok (.aload_n 0, 1) := by decide +kernel
theorem dX10_init_23 : decode cX10_init 23 = .ok (.sipush 130, 3) := by decide +kernel
theorem dX10_init_26 : decode cX10_init 26 = .ok (.newarray .long, 2) := by decide +kernel
theorem dX10_init_28 : decode cX10_init 28 = .ok (.putfield 16, 3) := by decide +kernel
theorem dX10_init_31 : decode cX10_init 31 = .ok (.aload_n 0, 1) := by decide +kernel
theorem dX10_init_32 : decode cX10_init 32 = .ok (.sipush 1300, 3) := by decide +kernel
theorem dX10_init_35 : decode cX10_init 35 = .ok (.newarray .long, 2) := by decide +kernel
theorem dX10_init_37 : decode cX10_init 37 = .ok (.putfield 19, 3) := by decide +kernel
theorem dX10_init_40 : decode cX10_init 40 = .ok (.aload_n 0, 1) := by decide +kernel
theorem dX10_init_41 : decode cX10_init 41 = .ok (.aload_n 0, 1) := by decide +kernel
theorem dX10_init_42 : decode cX10_init 42 = .ok (.getfield 9, 3) := by decide +kernel
theorem dX10_init_45 : decode cX10_init 45 = .ok (.putfield 22, 3) := by decide +kernel
theorem dX10_init_48 : decode cX10_init 48 = .ok (.aload_n 0, 1) := by decide +kernel
theorem dX10_init_49 : decode cX10_init 49 = .ok (.bipush 16, 2) := by decide +kernel
theorem dX10_init_51 : decode cX10_init 51 = .ok (.newarray .int, 2) := by decide +kernel
theorem dX10_init_53 : decode cX10_init 53 = .ok (.putfield 25, 3) := by decide +kernel
theorem dX10_init_56 : decode cX10_init 56 = .ok (.aload_n 0, 1) := by decide +kernel
theorem dX10_init_57 : decode cX10_init 57 = .ok (.bipush 12, 2) := by decide +kernel
theorem dX10_init_59 : decode cX10_init 59 = .ok (.newarray .int, 2) := by decide +kernel
theorem dX10_init_61 : decode cX10_init 61 = .ok (.putfield 29, 3) := by decide +kernel
theorem dX10_init_64 : decode cX10_init 64 = .ok (.aload_n 0, 1) := by decide +kernel
theorem dX10_init_65 : decode cX10_init 65 = .ok (.bipush 16, 2) := by decide +kernel
theorem dX10_init_67 : decode cX10_init 67 = .ok (.newarray .int, 2) := by decide +kernel
theorem dX10_init_69 : decode cX10_init 69 = .ok (.putfield 32, 3) := by decide +kernel
theorem dX10_init_72 : decode cX10_init 72 = .ok (.aload_n 0, 1) := by decide +kernel
theorem dX10_init_73 : decode cX10_init 73 = .ok (.bipush 28, 2) := by decide +kernel
theorem dX10_init_75 : decode cX10_init 75 = .ok (.newarray .int, 2) := by decide +kernel
theorem dX10_init_77 : decode cX10_init 77 = .ok (.putfield 35, 3) := by decide +kernel
theorem dX10_init_80 : decode cX10_init 80 = .ok (.aload_n 0, 1) := by decide +kernel
theorem dX10_init_81 : decode cX10_init 81 = .ok (.bipush 28, 2) := by decide +kernel
theorem dX10_init_83 : decode cX10_init 83 = .ok (.newarray .boolean, 2) := by decide +kernel
theorem dX10_init_85 : decode cX10_init 85 = .ok (.putfield 38, 3) := by decide +kernel
theorem dX10_init_88 : decode cX10_init 88 = .ok (.aload_n 0, 1) := by decide +kernel
theorem dX10_init_89 : decode cX10_init 89 = .ok (.sipush 448, 3) := by decide +kernel
theorem dX10_init_92 : decode cX10_init 92 = .ok (.newarray .int, 2) := by decide +kernel
theorem dX10_init_94 : decode cX10_init 94 = .ok (.putfield 42, 3) := by decide +kernel
theorem dX10_init_97 : decode cX10_init 97 = .ok (.aload_n 0, 1) := by decide +kernel
theorem dX10_init_98 : decode cX10_init 98 = .ok (.bipush 28, 2) := by decide +kernel
theorem dX10_init_100 : decode cX10_init 100 = .ok (.newarray .int, 2) := by decide +kernel
theorem dX10_init_102 : decode cX10_init 102 = .ok (.putfield 45, 3) := by decide +kernel
theorem dX10_init_105 : decode cX10_init 105 = .ok (.aload_n 0, 1) := by decide +kernel
theorem dX10_init_106 : decode cX10_init 106 = .ok (.sipush 800, 3) := by decide +kernel
theorem dX10_init_109 : decode cX10_init 109 = .ok (.newarray .int, 2) := by decide +kernel
theorem dX10_init_111 : decode cX10_init 111 = .ok (.putfield 48, 3) := by decide +kernel
theorem dX10_init_114 : decode cX10_init 114 = .ok (.aload_n 0, 1) := by decide +kernel
theorem dX10_init_115 : decode cX10_init 115 = .ok (.sipush 256, 3) := by decide +kernel
theorem dX10_init_118 : decode cX10_init 118 = .ok (.newarray .long, 2) := by decide +kernel
theorem dX10_init_120 : decode cX10_init 120 = .ok (.putfield 51, 3) := by decide +kernel
theorem dX10_init_123 : decode cX10_init 123 = .ok (.aload_n 0, 1) := by decide +kernel
theorem dX10_init_124 : decode cX10_init 124 = .ok (.bipush 16, 2) := by decide +kernel
theorem dX10_init_126 : decode cX10_init 126 = .ok (.newarray .int, 2) := by decide +kernel
theorem dX10_init_128 : decode cX10_init 128 = .ok (.putfield 54, 3) := by decide +kernel
theorem dX10_init_131 : decode cX10_init 131 = .ok (.aload_n 0, 1) := by decide +kernel
theorem dX10_init_132 : decode cX10_init 132 = .ok (.bipush 16, 2) := by decide +kernel
theorem dX10_init_134 : decode cX10_init 134 = .ok (.newarray .int, 2) := by decide +kernel
theorem dX10_init_136 : decode cX10_init 136 = .ok (.putfield 57, 3) := by decide +kernel
theorem dX10_init_139 : decode cX10_init 139 = .ok (.aload_n 0, 1) := by decide +kernel
theorem dX10_init_140 : decode cX10_init 140 = .ok (.sipush 200, 3) := by decide +kernel
theorem dX10_init_143 : decode cX10_init 143 = .ok (.newarray .int, 2) := by decide +kernel
theorem dX10_init_145 : decode cX10_init 145 = .ok (.putfield 60, 3) := by decide +kernel
theorem dX10_init_148 : decode cX10_init 148 = .ok (.aload_n 0, 1) := by decide +kernel
theorem dX10_init_149 : decode cX10_init 149 = .ok (.sipush 800, 3) := by decide +kernel
theorem dX10_init_152 : decode cX10_init 152 = .ok (.newarray .int, 2) := by decide +kernel
theorem dX10_init_154 : decode cX10_init 154 = .ok (.putfield 63, 3) := by decide +kernel
theorem dX10_init_157 : decode cX10_init 157 = .ok (.aload_n 0, 1) := by decide +kernel
theorem dX10_init_158 : decode cX10_init 158 = .ok (.iconst (-1), 1) := by decide +kernel
theorem dX10_init_159 : decode cX10_init 159 = .ok (.putfield 66, 3) := by decide +kernel
theorem dX10_init_162 : decode cX10_init 162 = .ok (.aload_n 0, 1) := by decide +kernel
theorem dX10_init_163 : decode cX10_init 163 = .ok (.bipush 7, 2) := by decide +kernel
theorem dX10_init_165 : decode cX10_init 165 = .ok (.anewarray 70, 3) := by decide +kernel
theorem dX10_init_168 : decode cX10_init 168 = .ok (.dup, 1) := by decide +kernel
theorem dX10_init_169 : decode cX10_init 169 = .ok (.iconst 0, 1) := by decide +kernel
theorem dX10_init_170 : decode cX10_init 170 = .ok (.ldc 72, 2) := by decide +kernel
theorem dX10_init_172 : decode cX10_init 172 = .ok (.aastore, 1) := by decide +kernel
theorem dX10_init_173 : decode cX10_init 173 = .ok (.dup, 1) := by decide +kernel
theorem dX10_init_174 : decode cX10_init 174 = .ok (.iconst 1, 1) := by decide +kernel
theorem dX10_init_175 : decode cX10_init 175 = .ok (.ldc 74, 2) := by decide +kernel
theorem dX10_init_177 : decode cX10_init 177 = .ok (.aastore, 1) := by decide +kernel
theorem dX10_init_178 : decode cX10_init 178 = .ok (.dup, 1) := by decide +kernel
theorem dX10_init_179 : decode cX10_init 179 = .ok (.iconst 2, 1) := by decide +kernel
theorem dX10_init_180 : decode cX10_init 180 = .ok (.ldc 76, 2) := by decide +kernel
theorem dX10_init_182 : decode cX10_init 182 = .ok (.aastore, 1) := by decide +kernel
theorem dX10_init_183 : decode cX10_init 183 = .ok (.dup, 1) := by decide +kernel
theorem dX10_init_184 : decode cX10_init 184 = .ok (.iconst 3, 1) := by decide +kernel
theorem dX10_init_185 : decode cX10_init 185 = .ok (.ldc 77, 2) := by decide +kernel
theorem dX10_init_187 : decode cX10_init 187 = .ok (.aastore, 1) := by decide +kernel
theorem dX10_init_188 : decode cX10_init 188 = .ok (.dup, 1) := by decide +kernel
theorem dX10_init_189 : decode cX10_init 189 = .ok (.iconst 4, 1) := by decide +kernel
theorem dX10_init_190 : decode cX10_init 190 = .ok (.ldc 79, 2) := by decide +kernel
theorem dX10_init_192 : decode cX10_init 192 = .ok (.aastore, 1) := by decide +kernel
theorem dX10_init_193 : decode cX10_init 193 = .ok (.dup, 1) := by decide +kernel
theorem dX10_init_194 : decode cX10_init 194 = .ok (.iconst 5, 1) := by decide +kernel
theorem dX10_init_195 : decode cX10_init 195 = .ok (.ldc 81, 2) := by decide +kernel
theorem dX10_init_197 : decode cX10_init 197 = .ok (.aastore, 1) := by decide +kernel
theorem dX10_init_198 : decode cX10_init 198 = .ok (.dup, 1) := by decide +kernel
theorem dX10_init_199 : decode cX10_init 199 = .ok (.bipush 6, 2) := by decide +kernel
theorem dX10_init_201 : decode cX10_init 201 = .ok (.ldc 83, 2) := by decide +kernel
theorem dX10_init_203 : decode cX10_init 203 = .ok (.aastore, 1) := by decide +kernel
theorem dX10_init_204 : decode cX10_init 204 = .ok (.putfield 85, 3) := by decide +kernel
theorem dX10_init_207 : decode cX10_init 207 = .ok (.aload_n 0, 1) := by decide +kernel
theorem dX10_init_208 : decode cX10_init 208 = .ok (.sipush 200, 3) := by decide +kernel
theorem dX10_init_211 : decode cX10_init 211 = .ok (.newarray .int, 2) := by decide +kernel
theorem dX10_init_213 : decode cX10_init 213 = .ok (.putfield 89, 3) := by decide +kernel
theorem dX10_init_216 : decode cX10_init 216 = .ok (.aload_n 0, 1) := by decide +kernel
theorem dX10_init_217 : decode cX10_init 217 = .ok (.sipush 200, 3) := by decide +kernel
theorem dX10_init_220 : decode cX10_init 220 = .ok (.newarray .long, 2) := by decide +kernel
theorem dX10_init_222 : decode cX10_init 222 = .ok (.putfield 92, 3) := by decide +kernel
theorem dX10_init_225 : decode cX10_init 225 = .ok (.return_, 1) := by decide +kernel
theorem dX10_thrown_0 : decode cX10_thrown 0 = .ok (.aload_n 0, 1) := by decide +kernel
theorem dX10_thrown_1 : decode cX10_thrown 1 = .ok (.getfield 95, 3) := by decide +kernel
theorem dX10_thrown_4 : decode cX10_thrown 4 = .ok (.ireturn, 1) := by decide +kernel
theorem dX10_raise_0 : decode cX10_raise 0 = .ok (.aload_n 0, 1) := by decide +kernel
theorem dX10_raise_1 : decode cX10_raise 1 = .ok (.iload_n 1, 1) := by decide +kernel
theorem dX10_raise_2 : decode cX10_raise 2 = .ok (.putfield 95, 3) := by decide +kernel
theorem dX10_raise_5 : decode cX10_raise 5 = .ok (.iconst 0, 1) := by decide +kernel
theorem dX10_raise_6 : decode cX10_raise 6 = .ok (.ireturn, 1) := by decide +kernel
theorem dX10_inRange_0 : decode cX10_inRange 0 = .ok (.lload_n 0, 1) := by decide +kernel
theorem dX10_inRange_1 : decode cX10_inRange 1 = .ok (.lload_n 2, 1) := by decide +kernel
theorem dX10_inRange_2 : decode cX10_inRange 2 = .ok (.lcmp, 1) := by decide +kernel
theorem dX10_inRange_3 : decode cX10_inRange 3 = .ok (.ifCond .lt 14, 3) := by decide +kernel
theorem dX10_inRange_6 : decode cX10_inRange 6 = .ok (.lload_n 0, 1) := by decide +kernel
theorem dX10_inRange_7 : decode cX10_inRange 7 = .ok (.lload 4, 2) := by decide +kernel
theorem dX10_inRange_9 : decode cX10_inRange 9 = .ok (.lcmp, 1) := by decide +kernel
theorem dX10_inRange_10 : decode cX10_inRange 10 = .ok (.ifCond .gt 7, 3) := by decide +kernel
theorem dX10_inRange_13 : decode cX10_inRange 13 = .ok (.iconst 1, 1) := by decide +kernel
theorem dX10_inRange_14 : decode cX10_inRange 14 = .ok (.goto 4, 3) := by decide +kernel
theorem dX10_inRange_17 : decode cX10_inRange 17 = .ok (.iconst 0, 1) := by decide +kernel
theorem dX10_inRange_18 : decode cX10_inRange 18 = .ok (.ireturn, 1) := by decide +kernel
theorem dX10_persons_0 : decode cX10_persons 0 = .ok (.aload_n 0, 1) := by decide +kernel
theorem dX10_persons_1 : decode cX10_persons 1 = .ok (.getfield 22, 3) := by decide +kernel
theorem dX10_persons_4 : decode cX10_persons 4 = .ok (.iconst 0, 1) := by decide +kernel
theorem dX10_persons_5 : decode cX10_persons 5 = .ok (.laload, 1) := by decide +kernel
theorem dX10_persons_6 : decode cX10_persons 6 = .ok (.l2i, 1) := by decide +kernel
theorem dX10_persons_7 : decode cX10_persons 7 = .ok (.ireturn, 1) := by decide +kernel
theorem dX10_unions_0 : decode cX10_unions 0 = .ok (.aload_n 0, 1) := by decide +kernel
theorem dX10_unions_1 : decode cX10_unions 1 = .ok (.getfield 22, 3) := by decide +kernel
theorem dX10_unions_4 : decode cX10_unions 4 = .ok (.iconst 1, 1) := by decide +kernel
theorem dX10_unions_5 : decode cX10_unions 5 = .ok (.laload, 1) := by decide +kernel
theorem dX10_unions_6 : decode cX10_unions 6 = .ok (.l2i, 1) := by decide +kernel
theorem dX10_unions_7 : decode cX10_unions 7 = .ok (.ireturn, 1) := by decide +kernel
theorem dX10_ofPerson_0 : decode cX10_ofPerson 0 = .ok (.aload_n 0, 1) := by decide +kernel
theorem dX10_ofPerson_1 : decode cX10_ofPerson 1 = .ok (.getfield 22, 3) := by decide +kernel
theorem dX10_ofPerson_4 : decode cX10_ofPerson 4 = .ok (.iconst 2, 1) := by decide +kernel
theorem dX10_ofPerson_5 : decode cX10_ofPerson 5 = .ok (.iconst 4, 1) := by decide +kernel
theorem dX10_ofPerson_6 : decode cX10_ofPerson 6 = .ok (.iload_n 1, 1) := by decide +kernel
theorem dX10_ofPerson_7 : decode cX10_ofPerson 7 = .ok (.imul, 1) := by decide +kernel
theorem dX10_ofPerson_8 : decode cX10_ofPerson 8 = .ok (.iadd, 1) := by decide +kernel
theorem dX10_ofPerson_9 : decode cX10_ofPerson 9 = .ok (.iload_n 2, 1) := by decide +kernel
theorem dX10_ofPerson_10 : decode cX10_ofPerson 10 = .ok (.iadd, 1) := by decide +kernel
theorem dX10_ofPerson_11 : decode cX10_ofPerson 11 = .ok (.laload, 1) := by decide +kernel
theorem dX10_ofPerson_12 : decode cX10_ofPerson 12 = .ok (.lreturn, 1) := by decide +kernel
theorem dX10_putPerson_0 : decode cX10_putPerson 0 = .ok (.aload_n 0, 1) := by decide +kernel
theorem dX10_putPerson_1 : decode cX10_putPerson 1 = .ok (.getfield 22, 3) := by decide +kernel
theorem dX10_putPerson_4 : decode cX10_putPerson 4 = .ok (.iconst 2, 1) := by decide +kernel
theorem dX10_putPerson_5 : decode cX10_putPerson 5 = .ok (.iconst 4, 1) := by decide +kernel
theorem dX10_putPerson_6 : decode cX10_putPerson 6 = .ok (.iload_n 1, 1) := by decide +kernel
theorem dX10_putPerson_7 : decode cX10_putPerson 7 = .ok (.imul, 1) := by decide +kernel
theorem dX10_putPerson_8 : decode cX10_putPerson 8 = .ok (.iadd, 1) := by decide +kernel
theorem dX10_putPerson_9 : decode cX10_putPerson 9 = .ok (.iload_n 2, 1) := by decide +kernel
theorem dX10_putPerson_10 : decode cX10_putPerson 10 = .ok (.iadd, 1) := by decide +kernel
theorem dX10_putPerson_11 : decode cX10_putPerson 11 = .ok (.lload_n 3, 1) := by decide +kernel
theorem dX10_putPerson_12 : decode cX10_putPerson 12 = .ok (.lastore, 1) := by decide +kernel
theorem dX10_putPerson_13 : decode cX10_putPerson 13 = .ok (.return_, 1) := by decide +kernel
theorem dX10_parentsOf_0 : decode cX10_parentsOf 0 = .ok (.aload_n 0, 1) := by decide +kernel
theorem dX10_parentsOf_1 : decode cX10_parentsOf 1 = .ok (.iload_n 1, 1) := by decide +kernel
theorem dX10_parentsOf_2 : decode cX10_parentsOf 2 = .ok (.iconst 1, 1) := by decide +kernel
theorem dX10_parentsOf_3 : decode cX10_parentsOf 3 = .ok (.invokevirtual 98, 3) := by decide +kernel
theorem dX10_parentsOf_6 : decode cX10_parentsOf 6 = .ok (.l2i, 1) := by decide +kernel
theorem dX10_parentsOf_7 : decode cX10_parentsOf 7 = .ok (.ireturn, 1) := by decide +kernel
theorem dX10_partner_0 : decode cX10_partner 0 = .ok (.aload_n 0, 1) := by decide +kernel
theorem dX10_partner_1 : decode cX10_partner 1 = .ok (.getfield 22, 3) := by decide +kernel
theorem dX10_partner_4 : decode cX10_partner 4 = .ok (.bipush 66, 2) := by decide +kernel
theorem dX10_partner_6 : decode cX10_partner 6 = .ok (.iconst 3, 1) := by decide +kernel
theorem dX10_partner_7 : decode cX10_partner 7 = .ok (.iload_n 1, 1) := by decide +kernel
theorem dX10_partner_8 : decode cX10_partner 8 = .ok (.imul, 1) := by decide +kernel
theorem dX10_partner_9 : decode cX10_partner 9 = .ok (.iadd, 1) := by decide +kernel
theorem dX10_partner_10 : decode cX10_partner 10 = .ok (.iload_n 2, 1) := by decide +kernel
theorem dX10_partner_11 : decode cX10_partner 11 = .ok (.iadd, 1) := by decide +kernel
theorem dX10_partner_12 : decode cX10_partner 12 = .ok (.laload, 1) := by decide +kernel
theorem dX10_partner_13 : decode cX10_partner 13 = .ok (.l2i, 1) := by decide +kernel
theorem dX10_partner_14 : decode cX10_partner 14 = .ok (.ireturn, 1) := by decide +kernel
theorem dX10_isPartner_0 : decode cX10_isPartner 0 = .ok (.aload_n 0, 1) := by decide +kernel
theorem dX10_isPartner_1 : decode cX10_isPartner 1 = .ok (.iload_n 1, 1) := by decide +kernel
theorem dX10_isPartner_2 : decode cX10_isPartner 2 = .ok (.iconst 0, 1) := by decide +kernel
theorem dX10_isPartner_3 : decode cX10_isPartner 3 = .ok (.invokevirtual 102, 3) := by decide +kernel
theorem dX10_isPartner_6 : decode cX10_isPartner 6 = .ok (.iload_n 2, 1) := by decide +kernel
theorem dX10_isPartner_7 : decode cX10_isPartner 7 = .ok (.if_icmp .eq 13, 3) := by decide +kernel
theorem dX10_isPartner_10 : decode cX10_isPartner 10 = .ok (.aload_n 0, 1) := by decide +kernel
theorem dX10_isPartner_11 : decode cX10_isPartner 11 = .ok (.iload_n 1, 1) := by decide +kernel
theorem dX10_isPartner_12 : decode cX10_isPartner 12 = .ok (.iconst 1, 1) := by decide +kernel
theorem dX10_isPartner_13 : decode cX10_isPartner 13 = .ok (.invokevirtual 102, 3) := by decide +kernel
theorem dX10_isPartner_16 : decode cX10_isPartner 16 = .ok (.iload_n 2, 1) := by decide +kernel
theorem dX10_isPartner_17 : decode cX10_isPartner 17 = .ok (.if_icmp .ne 7, 3) := by decide +kernel
theorem dX10_isPartner_20 : decode cX10_isPartner 20 = .ok (.iconst 1, 1) := by decide +kernel
theorem dX10_isPartner_21 : decode cX10_isPartner 21 = .ok (.goto 4, 3) := by decide +kernel
theorem dX10_isPartner_24 : decode cX10_isPartner 24 = .ok (.iconst 0, 1) := by decide +kernel
theorem dX10_isPartner_25 : decode cX10_isPartner 25 = .ok (.ireturn, 1) := by decide +kernel
theorem dX10_isPerson_0 : decode cX10_isPerson 0 = .ok (.iload_n 1, 1) := by decide +kernel
theorem dX10_isPerson_1 : decode cX10_isPerson 1 = .ok (.i2l, 1) := by decide +kernel
theorem dX10_isPerson_2 : decode cX10_isPerson 2 = .ok (.lconst 0, 1) := by decide +kernel
theorem dX10_isPerson_3 : decode cX10_isPerson 3 = .ok (.aload_n 0, 1) := by decide +kernel
theorem dX10_isPerson_4 : decode cX10_isPerson 4 = .ok (.getfield 22, 3) := by decide +kernel
theorem dX10_isPerson_7 : decode cX10_isPerson 7 = .ok (.iconst 0, 1) := by decide +kernel
theorem dX10_isPerson_8 : decode cX10_isPerson 8 = .ok (.laload, 1) := by decide +kernel
theorem dX10_isPerson_9 : decode cX10_isPerson 9 = .ok (.lconst 1, 1) := by decide +kernel
theorem dX10_isPerson_10 : decode cX10_isPerson 10 = .ok (.lsub, 1) := by decide +kernel
theorem dX10_isPerson_11 : decode cX10_isPerson 11 = .ok (.invokestatic 106, 3) := by decide +kernel
theorem dX10_isPerson_14 : decode cX10_isPerson 14 = .ok (.ireturn, 1) := by decide +kernel
theorem dX10_isUnion_0 : decode cX10_isUnion 0 = .ok (.iload_n 1, 1) := by decide +kernel
theorem dX10_isUnion_1 : decode cX10_isUnion 1 = .ok (.i2l, 1) := by decide +kernel
theorem dX10_isUnion_2 : decode cX10_isUnion 2 = .ok (.lconst 0, 1) := by decide +kernel
theorem dX10_isUnion_3 : decode cX10_isUnion 3 = .ok (.aload_n 0, 1) := by decide +kernel
theorem dX10_isUnion_4 : decode cX10_isUnion 4 = .ok (.getfield 22, 3) := by decide +kernel
theorem dX10_isUnion_7 : decode cX10_isUnion 7 = .ok (.iconst 1, 1) := by decide +kernel
theorem dX10_isUnion_8 : decode cX10_isUnion 8 = .ok (.laload, 1) := by decide +kernel
theorem dX10_isUnion_9 : decode cX10_isUnion 9 = .ok (.lconst 1, 1) := by decide +kernel
theorem dX10_isUnion_10 : decode cX10_isUnion 10 = .ok (.lsub, 1) := by decide +kernel
theorem dX10_isUnion_11 : decode cX10_isUnion 11 = .ok (.invokestatic 106, 3) := by decide +kernel
theorem dX10_isUnion_14 : decode cX10_isUnion 14 = .ok (.ireturn, 1) := by decide +kernel
theorem dX10_unionOf_0 : decode cX10_unionOf 0 = .ok (.iconst 0, 1) := by decide +kernel
theorem dX10_unionOf_1 : decode cX10_unionOf 1 = .ok (.istore_n 3, 1) := by decide +kernel
theorem dX10_unionOf_2 : decode cX10_unionOf 2 = .ok (.iload_n 3, 1) := by decide +kernel
theorem dX10_unionOf_3 : decode cX10_unionOf 3 = .ok (.aload_n 0, 1) := by decide +kernel
theorem dX10_unionOf_4 : decode cX10_unionOf 4 = .ok (.invokevirtual 110, 3) := by decide +kernel
theorem dX10_unionOf_7 : decode cX10_unionOf 7 = .ok (.if_icmp .ge 34, 3) := by decide +kernel
theorem dX10_unionOf_10 : decode cX10_unionOf 10 = .ok (.aload_n 0, 1) := by decide +kernel
theorem dX10_unionOf_11 : decode cX10_unionOf 11 = .ok (.iload_n 3, 1) := by decide +kernel
theorem dX10_unionOf_12 : decode cX10_unionOf 12 = .ok (.iload_n 1, 1) := by decide +kernel
theorem dX10_unionOf_13 : decode cX10_unionOf 13 = .ok (.invokevirtual 113, 3) := by decide +kernel
theorem dX10_unionOf_16 : decode cX10_unionOf 16 = .ok (.ifCond .eq 19, 3) := by decide +kernel
theorem dX10_unionOf_19 : decode cX10_unionOf 19 = .ok (.aload_n 0, 1) := by decide +kernel
theorem dX10_unionOf_20 : decode cX10_unionOf 20 = .ok (.iload_n 3, 1) := by decide +kernel
theorem dX10_unionOf_21 : decode cX10_unionOf 21 = .ok (.iload_n 2, 1) := by decide +kernel
theorem dX10_unionOf_22 : decode cX10_unionOf 22 = .ok (.invokevirtual 113, 3) := by decide +kernel
theorem dX10_unionOf_25 : decode cX10_unionOf 25 = .ok (.ifCond .eq 10, 3) := by decide +kernel
theorem dX10_unionOf_28 : decode cX10_unionOf 28 = .ok (.iload_n 1, 1) := by decide +kernel
theorem dX10_unionOf_29 : decode cX10_unionOf 29 = .ok (.iload_n 2, 1) := by decide +kernel
theorem dX10_unionOf_30 : decode cX10_unionOf 30 = .ok (.if_icmp .eq 5, 3) := by decide +kernel
theorem dX10_unionOf_33 : decode cX10_unionOf 33 = .ok (.iload_n 3, 1) := by decide +kernel
theorem dX10_unionOf_34 : decode cX10_unionOf 34 = .ok (.ireturn, 1) := by decide +kernel
theorem dX10_unionOf_35 : decode cX10_unionOf 35 = .ok (.iinc 3 1, 3) := by decide +kernel
theorem dX10_unionOf_38 : decode cX10_unionOf 38 = .ok (.goto (-36), 3) := by decide +kernel
theorem dX10_unionOf_41 : decode cX10_unionOf 41 = .ok (.iconst (-1), 1) := by decide +kernel
theorem dX10_unionOf_42 : decode cX10_unionOf 42 = .ok (.ireturn, 1) := by decide +kernel
theorem dX10_ancestorMask_0 : decode cX10_ancestorMask 0 = .ok (.iconst 0, 1) := by decide +kernel
theorem dX10_ancestorMask_1 : decode cX10_ancestorMask 1 = .ok (.istore_n 2, 1) := by decide +kernel
theorem dX10_ancestorMask_2 : decode cX10_ancestorMask 2 = .ok (.iconst 1, 1) := by decide +kernel
theorem dX10_ancestorMask_3 : decode cX10_ancestorMask 3 = .ok (.iload_n 1, 1) := by decide +kernel
theorem dX10_ancestorMask_4 : decode cX10_ancestorMask 4 = .ok (.ishl, 1) := by decide +kernel
theorem dX10_ancestorMask_5 : decode cX10_ancestorMask 5 = .ok (.istore_n 3, 1) := by decide +kernel
theorem dX10_ancestorMask_6 : decode cX10_ancestorMask 6 = .ok (.iload_n 3, 1) := by decide +kernel
theorem dX10_ancestorMask_7 : decode cX10_ancestorMask 7 = .ok (.ifCond .eq 95, 3) := by decide +kernel
theorem dX10_ancestorMask_10 : decode cX10_ancestorMask 10 = .ok (.iconst 0, 1) := by decide +kernel
theorem dX10_ancestorMask_11 : decode cX10_ancestorMask 11 = .ok (.istore 4, 2) := by decide +kernel
theorem dX10_ancestorMask_13 : decode cX10_ancestorMask 13 = .ok (.iload_n 3, 1) := by decide +kernel
theorem dX10_ancestorMask_14 : decode cX10_ancestorMask 14 = .ok (.iload 4, 2) := by decide +kernel
theorem dX10_ancestorMask_16 : decode cX10_ancestorMask 16 = .ok (.ishr, 1) := by decide +kernel
theorem dX10_ancestorMask_17 : decode cX10_ancestorMask 17 = .ok (.iconst 1, 1) := by decide +kernel
theorem dX10_ancestorMask_18 : decode cX10_ancestorMask 18 = .ok (.iand, 1) := by decide +kernel
theorem dX10_ancestorMask_19 : decode cX10_ancestorMask 19 = .ok (.ifCond .ne 9, 3) := by decide +kernel
theorem dX10_ancestorMask_22 : decode cX10_ancestorMask 22 = .ok (.iinc 4 1, 3) := by decide +kernel
theorem dX10_ancestorMask_25 : decode cX10_ancestorMask 25 = .ok (.goto (-12), 3) := by decide +kernel
theorem dX10_ancestorMask_28 : decode cX10_ancestorMask 28 = .ok (.iload_n 3, 1) := by decide +kernel
theorem dX10_ancestorMask_29 : decode cX10_ancestorMask 29 = .ok (.iconst 1, 1) := by decide +kernel
theorem dX10_ancestorMask_30 : decode cX10_ancestorMask 30 = .ok (.iload 4, 2) := by decide +kernel
theorem dX10_ancestorMask_32 : decode cX10_ancestorMask 32 = .ok (.ishl, 1) := by decide +kernel
theorem dX10_ancestorMask_33 : decode cX10_ancestorMask 33 = .ok (.iconst (-1), 1) := by decide +kernel
theorem dX10_ancestorMask_34 : decode cX10_ancestorMask 34 = .ok (.ixor, 1) := by decide +kernel
theorem dX10_ancestorMask_35 : decode cX10_ancestorMask 35 = .ok (.iand, 1) := by decide +kernel
theorem dX10_ancestorMask_36 : decode cX10_ancestorMask 36 = .ok (.istore_n 3, 1) := by decide +kernel
theorem dX10_ancestorMask_37 : decode cX10_ancestorMask 37 = .ok (.aload_n 0, 1) := by decide +kernel
theorem dX10_ancestorMask_38 : decode cX10_ancestorMask 38 = .ok (.iload 4, 2) := by decide +kernel
theorem dX10_ancestorMask_40 : decode cX10_ancestorMask 40 = .ok (.invokevirtual 117, 3) := by decide +kernel
theorem dX10_ancestorMask_43 : decode cX10_ancestorMask 43 = .ok (.istore 5, 2) := by decide +kernel
theorem dX10_ancestorMask_45 : decode cX10_ancestorMask 45 = .ok (.iconst 0, 1) := by decide +kernel
theorem dX10_ancestorMask_46 : decode cX10_ancestorMask 46 = .ok (.istore 6, 2) := by decide +kernel
theorem dX10_ancestorMask_48 : decode cX10_ancestorMask 48 = .ok (.iload 6, 2) := by decide +kernel
theorem dX10_ancestorMask_50 : decode cX10_ancestorMask 50 = .ok (.iconst 2, 1) := by decide +kernel
theorem dX10_ancestorMask_51 : decode cX10_ancestorMask 51 = .ok (.if_icmp .ge 48, 3) := by decide +kernel
theorem dX10_ancestorMask_54 : decode cX10_ancestorMask 54 = .ok (.iload 5, 2) := by decide +kernel
theorem dX10_ancestorMask_56 : decode cX10_ancestorMask 56 = .ok (.iconst (-1), 1) := by decide +kernel
theorem dX10_ancestorMask_57 : decode cX10_ancestorMask 57 = .ok (.if_icmp .eq 42, 3) := by decide +kernel
theorem dX10_ancestorMask_60 : decode cX10_ancestorMask 60 = .ok (.iconst 1, 1) := by decide +kernel
theorem dX10_ancestorMask_61 : decode cX10_ancestorMask 61 = .ok (.aload_n 0, 1) := by decide +kernel
theorem dX10_ancestorMask_62 : decode cX10_ancestorMask 62 = .ok (.iload 5, 2) := by decide +kernel
theorem dX10_ancestorMask_64 : decode cX10_ancestorMask 64 = .ok (.iload 6, 2) := by decide +kernel
theorem dX10_ancestorMask_66 : decode cX10_ancestorMask 66 = .ok (.invokevirtual 102, 3) := by decide +kernel
theorem dX10_ancestorMask_69 : decode cX10_ancestorMask 69 = .ok (.ishl, 1) := by decide +kernel
theorem dX10_ancestorMask_70 : decode cX10_ancestorMask 70 = .ok (.istore 7, 2) := by decide +kernel
theorem dX10_ancestorMask_72 : decode cX10_ancestorMask 72 = .ok (.iload_n 3, 1) := by decide +kernel
theorem dX10_ancestorMask_73 : decode cX10_ancestorMask 73 = .ok (.iload_n 2, 1) := by decide +kernel
theorem dX10_ancestorMask_74 : decode cX10_ancestorMask 74 = .ok (.iload 7, 2) := by decide +kernel
theorem dX10_ancestorMask_76 : decode cX10_ancestorMask 76 = .ok (.iand, 1) := by decide +kernel
theorem dX10_ancestorMask_77 : decode cX10_ancestorMask 77 = .ok (.ifCond .ne 8, 3) := by decide +kernel
theorem dX10_ancestorMask_80 : decode cX10_ancestorMask 80 = .ok (.iload 7, 2) := by decide +kernel
theorem dX10_ancestorMask_82 : decode cX10_ancestorMask 82 = .ok (.goto 4, 3) := by decide +kernel
theorem dX10_ancestorMask_85 : decode cX10_ancestorMask 85 = .ok (.iconst 0, 1) := by decide +kernel
theorem dX10_ancestorMask_86 : decode cX10_ancestorMask 86 = .ok (.ior, 1) := by decide +kernel
theorem dX10_ancestorMask_87 : decode cX10_ancestorMask 87 = .ok (.istore_n 3, 1) := by decide +kernel
theorem dX10_ancestorMask_88 : decode cX10_ancestorMask 88 = .ok (.iload_n 2, 1) := by decide +kernel
theorem dX10_ancestorMask_89 : decode cX10_ancestorMask 89 = .ok (.iload 7, 2) := by decide +kernel
theorem dX10_ancestorMask_91 : decode cX10_ancestorMask 91 = .ok (.ior, 1) := by decide +kernel
theorem dX10_ancestorMask_92 : decode cX10_ancestorMask 92 = .ok (.istore_n 2, 1) := by decide +kernel
theorem dX10_ancestorMask_93 : decode cX10_ancestorMask 93 = .ok (.iinc 6 1, 3) := by decide +kernel
theorem dX10_ancestorMask_96 : decode cX10_ancestorMask 96 = .ok (.goto (-48), 3) := by decide +kernel
theorem dX10_ancestorMask_99 : decode cX10_ancestorMask 99 = .ok (.goto (-93), 3) := by decide +kernel
theorem dX10_ancestorMask_102 : decode cX10_ancestorMask 102 = .ok (.iload_n 2, 1) := by decide +kernel
theorem dX10_ancestorMask_103 : decode cX10_ancestorMask 103 = .ok (.ireturn, 1) := by decide +kernel
theorem dX10_childMask_0 : decode cX10_childMask 0 = .ok (.iconst 0, 1) := by decide +kernel
theorem dX10_childMask_1 : decode cX10_childMask 1 = .ok (.istore_n 2, 1) := by decide +kernel
theorem dX10_childMask_2 : decode cX10_childMask 2 = .ok (.iconst 0, 1) := by decide +kernel
theorem dX10_childMask_3 : decode cX10_childMask 3 = .ok (.istore_n 3, 1) := by decide +kernel
theorem dX10_childMask_4 : decode cX10_childMask 4 = .ok (.iload_n 3, 1) := by decide +kernel
theorem dX10_childMask_5 : decode cX10_childMask 5 = .ok (.aload_n 0, 1) := by decide +kernel
theorem dX10_childMask_6 : decode cX10_childMask 6 = .ok (.invokevirtual 121, 3) := by decide +kernel
theorem dX10_childMask_9 : decode cX10_childMask 9 = .ok (.if_icmp .ge 28, 3) := by decide +kernel
theorem dX10_childMask_12 : decode cX10_childMask 12 = .ok (.iload_n 2, 1) := by decide +kernel
theorem dX10_childMask_13 : decode cX10_childMask 13 = .ok (.aload_n 0, 1) := by decide +kernel
theorem dX10_childMask_14 : decode cX10_childMask 14 = .ok (.iload_n 3, 1) := by decide +kernel
theorem dX10_childMask_15 : decode cX10_childMask 15 = .ok (.invokevirtual 117, 3) := by decide +kernel
theorem dX10_childMask_18 : decode cX10_childMask 18 = .ok (.iload_n 1, 1) := by decide +kernel
theorem dX10_childMask_19 : decode cX10_childMask 19 = .ok (.if_icmp .ne 9, 3) := by decide +kernel
theorem dX10_childMask_22 : decode cX10_childMask 22 = .ok (.iconst 1, 1) := by decide +kernel
theorem dX10_childMask_23 : decode cX10_childMask 23 = .ok (.iload_n 3, 1) := by decide +kernel
theorem dX10_childMask_24 : decode cX10_childMask 24 = .ok (.ishl, 1) := by decide +kernel
theorem dX10_childMask_25 : decode cX10_childMask 25 = .ok (.goto 4, 3) := by decide +kernel
theorem dX10_childMask_28 : decode cX10_childMask 28 = .ok (.iconst 0, 1) := by decide +kernel
theorem dX10_childMask_29 : decode cX10_childMask 29 = .ok (.ior, 1) := by decide +kernel
theorem dX10_childMask_30 : decode cX10_childMask 30 = .ok (.istore_n 2, 1) := by decide +kernel
theorem dX10_childMask_31 : decode cX10_childMask 31 = .ok (.iinc 3 1, 3) := by decide +kernel
theorem dX10_childMask_34 : decode cX10_childMask 34 = .ok (.goto (-30), 3) := by decide +kernel
theorem dX10_childMask_37 : decode cX10_childMask 37 = .ok (.iload_n 2, 1) := by decide +kernel
theorem dX10_childMask_38 : decode cX10_childMask 38 = .ok (.ireturn, 1) := by decide +kernel
theorem dX10_members_0 : decode cX10_members 0 = .ok (.iconst 0, 1) := by decide +kernel
theorem dX10_members_1 : decode cX10_members 1 = .ok (.istore_n 1, 1) := by decide +kernel
theorem dX10_members_2 : decode cX10_members 2 = .ok (.iload_n 0, 1) := by decide +kernel
theorem dX10_members_3 : decode cX10_members 3 = .ok (.istore_n 2, 1) := by decide +kernel
theorem dX10_members_4 : decode cX10_members 4 = .ok (.iload_n 2, 1) := by decide +kernel
theorem dX10_members_5 : decode cX10_members 5 = .ok (.ifCond .eq 15, 3) := by decide +kernel
theorem dX10_members_8 : decode cX10_members 8 = .ok (.iinc 1 1, 3) := by decide +kernel
theorem dX10_members_11 : decode cX10_members 11 = .ok (.iload_n 2, 1) := by decide +kernel
theorem dX10_members_12 : decode cX10_members 12 = .ok (.iload_n 2, 1) := by decide +kernel
theorem dX10_members_13 : decode cX10_members 13 = .ok (.iconst 1, 1) := by decide +kernel
theorem dX10_members_14 : decode cX10_members 14 = .ok (.isub, 1) := by decide +kernel
theorem dX10_members_15 : decode cX10_members 15 = .ok (.iand, 1) := by decide +kernel
theorem dX10_members_16 : decode cX10_members 16 = .ok (.istore_n 2, 1) := by decide +kernel
theorem dX10_members_17 : decode cX10_members 17 = .ok (.goto (-13), 3) := by decide +kernel
theorem dX10_members_20 : decode cX10_members 20 = .ok (.iload_n 1, 1) := by decide +kernel
theorem dX10_members_21 : decode cX10_members 21 = .ok (.ireturn, 1) := by decide +kernel
theorem dX10_levelOf_0 : decode cX10_levelOf 0 = .ok (.aload_n 0, 1) := by decide +kernel
theorem dX10_levelOf_1 : decode cX10_levelOf 1 = .ok (.getfield 25, 3) := by decide +kernel
theorem dX10_levelOf_4 : decode cX10_levelOf 4 = .ok (.aload_n 0, 1) := by decide +kernel
theorem dX10_levelOf_5 : decode cX10_levelOf 5 = .ok (.iload_n 1, 1) := by decide +kernel
theorem dX10_levelOf_6 : decode cX10_levelOf 6 = .ok (.iconst 0, 1) := by decide +kernel
theorem dX10_levelOf_7 : decode cX10_levelOf 7 = .ok (.invokevirtual 102, 3) := by decide +kernel
theorem dX10_levelOf_10 : decode cX10_levelOf 10 = .ok (.iaload, 1) := by decide +kernel
theorem dX10_levelOf_11 : decode cX10_levelOf 11 = .ok (.aload_n 0, 1) := by decide +kernel
theorem dX10_levelOf_12 : decode cX10_levelOf 12 = .ok (.getfield 25, 3) := by decide +kernel
theorem dX10_levelOf_15 : decode cX10_levelOf 15 = .ok (.aload_n 0, 1) := by decide +kernel
theorem dX10_levelOf_16 : decode cX10_levelOf 16 = .ok (.iload_n 1, 1) := by decide +kernel
theorem dX10_levelOf_17 : decode cX10_levelOf 17 = .ok (.iconst 1, 1) := by decide +kernel
theorem dX10_levelOf_18 : decode cX10_levelOf 18 = .ok (.invokevirtual 102, 3) := by decide +kernel
theorem dX10_levelOf_21 : decode cX10_levelOf 21 = .ok (.iaload, 1) := by decide +kernel
theorem dX10_levelOf_22 : decode cX10_levelOf 22 = .ok (.invokestatic 124, 3) := by decide +kernel
theorem dX10_levelOf_25 : decode cX10_levelOf 25 = .ok (.ireturn, 1) := by decide +kernel
theorem dX10_layGenerations_0 : decode cX10_layGenerations 0 = .ok (.iconst 0, 1) := by decide +kernel
theorem dX10_layGenerations_1 : decode cX10_layGenerations 1 = .ok (.istore_n 1, 1) := by decide +kernel
theorem dX10_layGenerations_2 : decode cX10_layGenerations 2 = .ok (.iload_n 1, 1) := by decide +kernel
theorem dX10_layGenerations_3 : decode cX10_layGenerations 3 = .ok (.aload_n 0, 1) := by decide +kernel
theorem dX10_layGenerations_4 : decode cX10_layGenerations 4 = .ok (.invokevirtual 121, 3) := by decide +kernel
theorem dX10_layGenerations_7 : decode cX10_layGenerations 7 = .ok (.if_icmp .ge 16, 3) := by decide +kernel
theorem dX10_layGenerations_10 : decode cX10_layGenerations 10 = .ok (.aload_n 0, 1) := by decide +kernel
theorem dX10_layGenerations_11 : decode cX10_layGenerations 11 = .ok (.getfield 25, 3) := by decide +kernel
theorem dX10_layGenerations_14 : decode cX10_layGenerations 14 = .ok (.iload_n 1, 1) := by decide +kernel
theorem dX10_layGenerations_15 : decode cX10_layGenerations 15 = .ok (.iconst 0, 1) := by decide +kernel
theorem dX10_layGenerations_16 : decode cX10_layGenerations 16 = .ok (.iastore, 1) := by decide +kernel
theorem dX10_layGenerations_17 : decode cX10_layGenerations 17 = .ok (.iinc 1 1, 3) := by decide +kernel
theorem dX10_layGenerations_20 : decode cX10_layGenerations 20 = .ok (.goto (-18), 3) := by decide +kernel
theorem dX10_layGenerations_23 : decode cX10_layGenerations 23 = .ok (.iconst 1, 1) := by decide +kernel
theorem dX10_layGenerations_24 : decode cX10_layGenerations 24 = .ok (.istore_n 1, 1) := by decide +kernel
theorem dX10_layGenerations_25 : decode cX10_layGenerations 25 = .ok (.iload_n 1, 1) := by decide +kernel
theorem dX10_layGenerations_26 : decode cX10_layGenerations 26 = .ok (.ifCond .eq 76, 3) := by decide +kernel
theorem dX10_layGenerations_29 : decode cX10_layGenerations 29 = .ok (.iconst 0, 1) := by decide +kernel
theorem dX10_layGenerations_30 : decode cX10_layGenerations 30 = .ok (.istore_n 1, 1) := by decide +kernel
theorem dX10_layGenerations_31 : decode cX10_layGenerations 31 = .ok (.iconst 0, 1) := by decide +kernel
theorem dX10_layGenerations_32 : decode cX10_layGenerations 32 = .ok (.istore_n 2, 1) := by decide +kernel
theorem dX10_layGenerations_33 : decode cX10_layGenerations 33 = .ok (.iload_n 2, 1) := by decide +kernel
theorem dX10_layGenerations_34 : decode cX10_layGenerations 34 = .ok (.aload_n 0, 1) := by decide +kernel
theorem dX10_layGenerations_35 : decode cX10_layGenerations 35 = .ok (.invokevirtual 121, 3) := by decide +kernel
theorem dX10_layGenerations_38 : decode cX10_layGenerations 38 = .ok (.if_icmp .ge 61, 3) := by decide +kernel
theorem dX10_layGenerations_41 : decode cX10_layGenerations 41 = .ok (.aload_n 0, 1) := by decide +kernel
theorem dX10_layGenerations_42 : decode cX10_layGenerations 42 = .ok (.iload_n 2, 1) := by decide +kernel
theorem dX10_layGenerations_43 : decode cX10_layGenerations 43 = .ok (.invokevirtual 117, 3) := by decide +kernel
theorem dX10_layGenerations_46 : decode cX10_layGenerations 46 = .ok (.iconst (-1), 1) := by decide +kernel
theorem dX10_layGenerations_47 : decode cX10_layGenerations 47 = .ok (.if_icmp .ne 7, 3) := by decide +kernel
theorem dX10_layGenerations_50 : decode cX10_layGenerations 50 = .ok (.iconst 0, 1) := by decide +kernel
theorem dX10_layGenerations_51 : decode cX10_layGenerations 51 = .ok (.goto 14, 3) := by decide +kernel
theorem dX10_layGenerations_54 : decode cX10_layGenerations 54 = .ok (.aload_n 0, 1) := by decide +kernel
theorem dX10_layGenerations_55 : decode cX10_layGenerations 55 = .ok (.aload_n 0, 1) := by decide +kernel
theorem dX10_layGenerations_56 : decode cX10_layGenerations 56 = .ok (.iload_n 2, 1) := by decide +kernel
theorem dX10_layGenerations_57 : decode cX10_layGenerations 57 = .ok (.invokevirtual 117, 3) := by decide +kernel
theorem dX10_layGenerations_60 : decode cX10_layGenerations 60 = .ok (.invokevirtual 129, 3) := by decide +kernel
theorem dX10_layGenerations_63 : decode cX10_layGenerations 63 = .ok (.iconst 1, 1) := by decide +kernel
theorem dX10_layGenerations_64 : decode cX10_layGenerations 64 = .ok (.iadd, 1) := by decide +kernel
theorem dX10_layGenerations_65 : decode cX10_layGenerations 65 = .ok (.istore_n 3, 1) := by decide +kernel
theorem dX10_layGenerations_66 : decode cX10_layGenerations 66 = .ok (.iload_n 1, 1) := by decide +kernel
theorem dX10_layGenerations_67 : decode cX10_layGenerations 67 = .ok (.ifCond .ne 13, 3) := by decide +kernel
theorem dX10_layGenerations_70 : decode cX10_layGenerations 70 = .ok (.iload_n 3, 1) := by decide +kernel
theorem dX10_layGenerations_71 : decode cX10_layGenerations 71 = .ok (.aload_n 0, 1) := by decide +kernel
theorem dX10_layGenerations_72 : decode cX10_layGenerations 72 = .ok (.getfield 25, 3) := by decide +kernel
theorem dX10_layGenerations_75 : decode cX10_layGenerations 75 = .ok (.iload_n 2, 1) := by decide +kernel
theorem dX10_layGenerations_76 : decode cX10_layGenerations 76 = .ok (.iaload, 1) := by decide +kernel
theorem dX10_layGenerations_77 : decode cX10_layGenerations 77 = .ok (.if_icmp .eq 7, 3) := by decide +kernel
theorem dX10_layGenerations_80 : decode cX10_layGenerations 80 = .ok (.iconst 1, 1) := by decide +kernel
theorem dX10_layGenerations_81 : decode cX10_layGenerations 81 = .ok (.goto 4, 3) := by decide +kernel
theorem dX10_layGenerations_84 : decode cX10_layGenerations 84 = .ok (.iconst 0, 1) := by decide +kernel
theorem dX10_layGenerations_85 : decode cX10_layGenerations 85 = .ok (.istore_n 1, 1) := by decide +kernel
theorem dX10_layGenerations_86 : decode cX10_layGenerations 86 = .ok (.aload_n 0, 1) := by decide +kernel
theorem dX10_layGenerations_87 : decode cX10_layGenerations 87 = .ok (.getfield 25, 3) := by decide +kernel
theorem dX10_layGenerations_90 : decode cX10_layGenerations 90 = .ok (.iload_n 2, 1) := by decide +kernel
theorem dX10_layGenerations_91 : decode cX10_layGenerations 91 = .ok (.iload_n 3, 1) := by decide +kernel
theorem dX10_layGenerations_92 : decode cX10_layGenerations 92 = .ok (.iastore, 1) := by decide +kernel
theorem dX10_layGenerations_93 : decode cX10_layGenerations 93 = .ok (.iinc 2 1, 3) := by decide +kernel
theorem dX10_layGenerations_96 : decode cX10_layGenerations 96 = .ok (.goto (-63), 3) := by decide +kernel
theorem dX10_layGenerations_99 : decode cX10_layGenerations 99 = .ok (.goto (-74), 3) := by decide +kernel
theorem dX10_layGenerations_102 : decode cX10_layGenerations 102 = .ok (.aload_n 0, 1) := by decide +kernel
theorem dX10_layGenerations_103 : decode cX10_layGenerations 103 = .ok (.iconst 0, 1) := by decide +kernel
theorem dX10_layGenerations_104 : decode cX10_layGenerations 104 = .ok (.putfield 132, 3) := by decide +kernel
theorem dX10_layGenerations_107 : decode cX10_layGenerations 107 = .ok (.iconst 0, 1) := by decide +kernel
theorem dX10_layGenerations_108 : decode cX10_layGenerations 108 = .ok (.istore_n 2, 1) := by decide +kernel
theorem dX10_layGenerations_109 : decode cX10_layGenerations 109 = .ok (.iload_n 2, 1) := by decide +kernel
theorem dX10_layGenerations_110 : decode cX10_layGenerations 110 = .ok (.aload_n 0, 1) := by decide +kernel
theorem dX10_layGenerations_111 : decode cX10_layGenerations 111 = .ok (.invokevirtual 121, 3) := by decide +kernel
theorem dX10_layGenerations_114 : decode cX10_layGenerations 114 = .ok (.if_icmp .ge 28, 3) := by decide +kernel
theorem dX10_layGenerations_117 : decode cX10_layGenerations 117 = .ok (.aload_n 0, 1) := by decide +kernel
theorem dX10_layGenerations_118 : decode cX10_layGenerations 118 = .ok (.aload_n 0, 1) := by decide +kernel
theorem dX10_layGenerations_119 : decode cX10_layGenerations 119 = .ok (.getfield 132, 3) := by decide +kernel
theorem dX10_layGenerations_122 : decode cX10_layGenerations 122 = .ok (.aload_n 0, 1) := by decide +kernel
theorem dX10_layGenerations_123 : decode cX10_layGenerations 123 = .ok (.getfield 25, 3) := by decide +kernel
theorem dX10_layGenerations_126 : decode cX10_layGenerations 126 = .ok (.iload_n 2, 1) := by decide +kernel
theorem dX10_layGenerations_127 : decode cX10_layGenerations 127 = .ok (.iaload, 1) := by decide +kernel
theorem dX10_layGenerations_128 : decode cX10_layGenerations 128 = .ok (.iconst 1, 1) := by decide +kernel
theorem dX10_layGenerations_129 : decode cX10_layGenerations 129 = .ok (.iadd, 1) := by decide +kernel
theorem dX10_layGenerations_130 : decode cX10_layGenerations 130 = .ok (.invokestatic 124, 3) := by decide +kernel
theorem dX10_layGenerations_133 : decode cX10_layGenerations 133 = .ok (.putfield 132, 3) := by decide +kernel
theorem dX10_layGenerations_136 : decode cX10_layGenerations 136 = .ok (.iinc 2 1, 3) := by decide +kernel
theorem dX10_layGenerations_139 : decode cX10_layGenerations 139 = .ok (.goto (-30), 3) := by decide +kernel
theorem dX10_layGenerations_142 : decode cX10_layGenerations 142 = .ok (.iconst 0, 1) := by decide +kernel
theorem dX10_layGenerations_143 : decode cX10_layGenerations 143 = .ok (.istore_n 2, 1) := by decide +kernel
theorem dX10_layGenerations_144 : decode cX10_layGenerations 144 = .ok (.iload_n 2, 1) := by decide +kernel
theorem dX10_layGenerations_145 : decode cX10_layGenerations 145 = .ok (.aload_n 0, 1) := by decide +kernel
theorem dX10_layGenerations_146 : decode cX10_layGenerations 146 = .ok (.invokevirtual 110, 3) := by decide +kernel
theorem dX10_layGenerations_149 : decode cX10_layGenerations 149 = .ok (.if_icmp .ge 20, 3) := by decide +kernel
theorem dX10_layGenerations_152 : decode cX10_layGenerations 152 = .ok (.aload_n 0, 1) := by decide +kernel
theorem dX10_layGenerations_153 : decode cX10_layGenerations 153 = .ok (.getfield 29, 3) := by decide +kernel
theorem dX10_layGenerations_156 : decode cX10_layGenerations 156 = .ok (.iload_n 2, 1) := by decide +kernel
theorem dX10_layGenerations_157 : decode cX10_layGenerations 157 = .ok (.aload_n 0, 1) := by decide +kernel
theorem dX10_layGenerations_158 : decode cX10_layGenerations 158 = .ok (.iload_n 2, 1) := by decide +kernel
theorem dX10_layGenerations_159 : decode cX10_layGenerations 159 = .ok (.invokevirtual 129, 3) := by decide +kernel
theorem dX10_layGenerations_162 : decode cX10_layGenerations 162 = .ok (.iastore, 1) := by decide +kernel
theorem dX10_layGenerations_163 : decode cX10_layGenerations 163 = .ok (.iinc 2 1, 3) := by decide +kernel
theorem dX10_layGenerations_166 : decode cX10_layGenerations 166 = .ok (.goto (-22), 3) := by decide +kernel
theorem dX10_layGenerations_169 : decode cX10_layGenerations 169 = .ok (.return_, 1) := by decide +kernel
theorem dX10_referred_0 : decode cX10_referred 0 = .ok (.aload_n 0, 1) := by decide +kernel
theorem dX10_referred_1 : decode cX10_referred 1 = .ok (.iload_n 1, 1) := by decide +kernel
theorem dX10_referred_2 : decode cX10_referred 2 = .ok (.iconst 0, 1) := by decide +kernel
theorem dX10_referred_3 : decode cX10_referred 3 = .ok (.invokevirtual 102, 3) := by decide +kernel
theorem dX10_referred_6 : decode cX10_referred 6 = .ok (.istore_n 2, 1) := by decide +kernel
theorem dX10_referred_7 : decode cX10_referred 7 = .ok (.aload_n 0, 1) := by decide +kernel
theorem dX10_referred_8 : decode cX10_referred 8 = .ok (.iload_n 1, 1) := by decide +kernel
theorem dX10_referred_9 : decode cX10_referred 9 = .ok (.iconst 1, 1) := by decide +kernel
theorem dX10_referred_10 : decode cX10_referred 10 = .ok (.invokevirtual 102, 3) := by decide +kernel
theorem dX10_referred_13 : decode cX10_referred 13 = .ok (.istore_n 3, 1) := by decide +kernel
theorem dX10_referred_14 : decode cX10_referred 14 = .ok (.aload_n 0, 1) := by decide +kernel
theorem dX10_referred_15 : decode cX10_referred 15 = .ok (.getfield 25, 3) := by decide +kernel
theorem dX10_referred_18 : decode cX10_referred 18 = .ok (.iload_n 2, 1) := by decide +kernel
theorem dX10_referred_19 : decode cX10_referred 19 = .ok (.iaload, 1) := by decide +kernel
theorem dX10_referred_20 : decode cX10_referred 20 = .ok (.aload_n 0, 1) := by decide +kernel
theorem dX10_referred_21 : decode cX10_referred 21 = .ok (.getfield 29, 3) := by decide +kernel
theorem dX10_referred_24 : decode cX10_referred 24 = .ok (.iload_n 1, 1) := by decide +kernel
theorem dX10_referred_25 : decode cX10_referred 25 = .ok (.iaload, 1) := by decide +kernel
theorem dX10_referred_26 : decode cX10_referred 26 = .ok (.if_icmp .ge 7, 3) := by decide +kernel
theorem dX10_referred_29 : decode cX10_referred 29 = .ok (.iload_n 2, 1) := by decide +kernel
theorem dX10_referred_30 : decode cX10_referred 30 = .ok (.goto 23, 3) := by decide +kernel
theorem dX10_referred_33 : decode cX10_referred 33 = .ok (.aload_n 0, 1) := by decide +kernel
theorem dX10_referred_34 : decode cX10_referred 34 = .ok (.getfield 25, 3) := by decide +kernel
theorem dX10_referred_37 : decode cX10_referred 37 = .ok (.iload_n 3, 1) := by decide +kernel
theorem dX10_referred_38 : decode cX10_referred 38 = .ok (.iaload, 1) := by decide +kernel
theorem dX10_referred_39 : decode cX10_referred 39 = .ok (.aload_n 0, 1) := by decide +kernel
theorem dX10_referred_40 : decode cX10_referred 40 = .ok (.getfield 29, 3) := by decide +kernel
theorem dX10_referred_43 : decode cX10_referred 43 = .ok (.iload_n 1, 1) := by decide +kernel
theorem dX10_referred_44 : decode cX10_referred 44 = .ok (.iaload, 1) := by decide +kernel
theorem dX10_referred_45 : decode cX10_referred 45 = .ok (.if_icmp .ge 7, 3) := by decide +kernel
theorem dX10_referred_48 : decode cX10_referred 48 = .ok (.iload_n 3, 1) := by decide +kernel
theorem dX10_referred_49 : decode cX10_referred 49 = .ok (.goto 4, 3) := by decide +kernel
theorem dX10_referred_52 : decode cX10_referred 52 = .ok (.iconst (-1), 1) := by decide +kernel
theorem dX10_referred_53 : decode cX10_referred 53 = .ok (.ireturn, 1) := by decide +kernel
theorem dX10_layBoxes_0 : decode cX10_layBoxes 0 = .ok (.iconst 0, 1) := by decide +kernel
theorem dX10_layBoxes_1 : decode cX10_layBoxes 1 = .ok (.istore_n 1, 1) := by decide +kernel
theorem dX10_layBoxes_2 : decode cX10_layBoxes 2 = .ok (.iload_n 1, 1) := by decide +kernel
theorem dX10_layBoxes_3 : decode cX10_layBoxes 3 = .ok (.bipush 28, 2) := by decide +kernel
theorem dX10_layBoxes_5 : decode cX10_layBoxes 5 = .ok (.if_icmp .ge 104, 3) := by decide +kernel
theorem dX10_layBoxes_8 : decode cX10_layBoxes 8 = .ok (.iload_n 1, 1) := by decide +kernel
theorem dX10_layBoxes_9 : decode cX10_layBoxes 9 = .ok (.bipush 16, 2) := by decide +kernel
theorem dX10_layBoxes_11 : decode cX10_layBoxes 11 = .ok (.isub, 1) := by decide +kernel
theorem dX10_layBoxes_12 : decode cX10_layBoxes 12 = .ok (.istore_n 2, 1) := by decide +kernel
theorem dX10_layBoxes_13 : decode cX10_layBoxes 13 = .ok (.aload_n 0, 1) := by decide +kernel
theorem dX10_layBoxes_14 : decode cX10_layBoxes 14 = .ok (.getfield 38, 3) := by decide +kernel
theorem dX10_layBoxes_17 : decode cX10_layBoxes 17 = .ok (.iload_n 1, 1) := by decide +kernel
theorem dX10_layBoxes_18 : decode cX10_layBoxes 18 = .ok (.iload_n 1, 1) := by decide +kernel
theorem dX10_layBoxes_19 : decode cX10_layBoxes 19 = .ok (.bipush 16, 2) := by decide +kernel
theorem dX10_layBoxes_21 : decode cX10_layBoxes 21 = .ok (.if_icmp .ge 19, 3) := by decide +kernel
theorem dX10_layBoxes_24 : decode cX10_layBoxes 24 = .ok (.iload_n 1, 1) := by decide +kernel
theorem dX10_layBoxes_25 : decode cX10_layBoxes 25 = .ok (.aload_n 0, 1) := by decide +kernel
theorem dX10_layBoxes_26 : decode cX10_layBoxes 26 = .ok (.invokevirtual 121, 3) := by decide +kernel
theorem dX10_layBoxes_29 : decode cX10_layBoxes 29 = .ok (.if_icmp .ge 7, 3) := by decide +kernel
theorem dX10_layBoxes_32 : decode cX10_layBoxes 32 = .ok (.iconst 1, 1) := by decide +kernel
theorem dX10_layBoxes_33 : decode cX10_layBoxes 33 = .ok (.goto 29, 3) := by decide +kernel
theorem dX10_layBoxes_36 : decode cX10_layBoxes 36 = .ok (.iconst 0, 1) := by decide +kernel
theorem dX10_layBoxes_37 : decode cX10_layBoxes 37 = .ok (.goto 25, 3) := by decide +kernel
theorem dX10_layBoxes_40 : decode cX10_layBoxes 40 = .ok (.iload_n 2, 1) := by decide +kernel
theorem dX10_layBoxes_41 : decode cX10_layBoxes 41 = .ok (.aload_n 0, 1) := by decide +kernel
theorem dX10_layBoxes_42 : decode cX10_layBoxes 42 = .ok (.invokevirtual 110, 3) := by decide +kernel
theorem dX10_layBoxes_45 : decode cX10_layBoxes 45 = .ok (.if_icmp .ge 16, 3) := by decide +kernel
theorem dX10_layBoxes_48 : decode cX10_layBoxes 48 = .ok (.aload_n 0, 1) := by decide +kernel
theorem dX10_layBoxes_49 : decode cX10_layBoxes 49 = .ok (.iload_n 2, 1) := by decide +kernel
theorem dX10_layBoxes_50 : decode cX10_layBoxes 50 = .ok (.invokevirtual 135, 3) := by decide +kernel
theorem dX10_layBoxes_53 : decode cX10_layBoxes 53 = .ok (.iconst (-1), 1) := by decide +kernel
theorem dX10_layBoxes_54 : decode cX10_layBoxes 54 = .ok (.if_icmp .eq 7, 3) := by decide +kernel
theorem dX10_layBoxes_57 : decode cX10_layBoxes 57 = .ok (.iconst 1, 1) := by decide +kernel
theorem dX10_layBoxes_58 : decode cX10_layBoxes 58 = .ok (.goto 4, 3) := by decide +kernel
theorem dX10_layBoxes_61 : decode cX10_layBoxes 61 = .ok (.iconst 0, 1) := by decide +kernel
theorem dX10_layBoxes_62 : decode cX10_layBoxes 62 = .ok (.bastore, 1) := by decide +kernel
theorem dX10_layBoxes_63 : decode cX10_layBoxes 63 = .ok (.aload_n 0, 1) := by decide +kernel
theorem dX10_layBoxes_64 : decode cX10_layBoxes 64 = .ok (.getfield 35, 3) := by decide +kernel
theorem dX10_layBoxes_67 : decode cX10_layBoxes 67 = .ok (.iload_n 1, 1) := by decide +kernel
theorem dX10_layBoxes_68 : decode cX10_layBoxes 68 = .ok (.aload_n 0, 1) := by decide +kernel
theorem dX10_layBoxes_69 : decode cX10_layBoxes 69 = .ok (.getfield 38, 3) := by decide +kernel
theorem dX10_layBoxes_72 : decode cX10_layBoxes 72 = .ok (.iload_n 1, 1) := by decide +kernel
theorem dX10_layBoxes_73 : decode cX10_layBoxes 73 = .ok (.baload, 1) := by decide +kernel
theorem dX10_layBoxes_74 : decode cX10_layBoxes 74 = .ok (.ifCond .ne 7, 3) := by decide +kernel
theorem dX10_layBoxes_77 : decode cX10_layBoxes 77 = .ok (.iconst (-1), 1) := by decide +kernel
theorem dX10_layBoxes_78 : decode cX10_layBoxes 78 = .ok (.goto 24, 3) := by decide +kernel
theorem dX10_layBoxes_81 : decode cX10_layBoxes 81 = .ok (.iload_n 1, 1) := by decide +kernel
theorem dX10_layBoxes_82 : decode cX10_layBoxes 82 = .ok (.bipush 16, 2) := by decide +kernel
theorem dX10_layBoxes_84 : decode cX10_layBoxes 84 = .ok (.if_icmp .ge 12, 3) := by decide +kernel
theorem dX10_layBoxes_87 : decode cX10_layBoxes 87 = .ok (.aload_n 0, 1) := by decide +kernel
theorem dX10_layBoxes_88 : decode cX10_layBoxes 88 = .ok (.getfield 25, 3) := by decide +kernel
theorem dX10_layBoxes_91 : decode cX10_layBoxes 91 = .ok (.iload_n 1, 1) := by decide +kernel
theorem dX10_layBoxes_92 : decode cX10_layBoxes 92 = .ok (.iaload, 1) := by decide +kernel
theorem dX10_layBoxes_93 : decode cX10_layBoxes 93 = .ok (.goto 9, 3) := by decide +kernel
theorem dX10_layBoxes_96 : decode cX10_layBoxes 96 = .ok (.aload_n 0, 1) := by decide +kernel
theorem dX10_layBoxes_97 : decode cX10_layBoxes 97 = .ok (.getfield 29, 3) := by decide +kernel
theorem dX10_layBoxes_100 : decode cX10_layBoxes 100 = .ok (.iload_n 2, 1) := by decide +kernel
theorem dX10_layBoxes_101 : decode cX10_layBoxes 101 = .ok (.iaload, 1) := by decide +kernel
theorem dX10_layBoxes_102 : decode cX10_layBoxes 102 = .ok (.iastore, 1) := by decide +kernel
theorem dX10_layBoxes_103 : decode cX10_layBoxes 103 = .ok (.iinc 1 1, 3) := by decide +kernel
theorem dX10_layBoxes_106 : decode cX10_layBoxes 106 = .ok (.goto (-104), 3) := by decide +kernel
theorem dX10_layBoxes_109 : decode cX10_layBoxes 109 = .ok (.iconst 0, 1) := by decide +kernel
theorem dX10_layBoxes_110 : decode cX10_layBoxes 110 = .ok (.istore_n 1, 1) := by decide +kernel
theorem dX10_layBoxes_111 : decode cX10_layBoxes 111 = .ok (.iload_n 1, 1) := by decide +kernel
theorem dX10_layBoxes_112 : decode cX10_layBoxes 112 = .ok (.bipush 16, 2) := by decide +kernel
theorem dX10_layBoxes_114 : decode cX10_layBoxes 114 = .ok (.if_icmp .ge 16, 3) := by decide +kernel
theorem dX10_layBoxes_117 : decode cX10_layBoxes 117 = .ok (.aload_n 0, 1) := by decide +kernel
theorem dX10_layBoxes_118 : decode cX10_layBoxes 118 = .ok (.getfield 32, 3) := by decide +kernel
theorem dX10_layBoxes_121 : decode cX10_layBoxes 121 = .ok (.iload_n 1, 1) := by decide +kernel
theorem dX10_layBoxes_122 : decode cX10_layBoxes 122 = .ok (.iconst 0, 1) := by decide +kernel
theorem dX10_layBoxes_123 : decode cX10_layBoxes 123 = .ok (.iastore, 1) := by decide +kernel
theorem dX10_layBoxes_124 : decode cX10_layBoxes 124 = .ok (.iinc 1 1, 3) := by decide +kernel
theorem dX10_layBoxes_127 : decode cX10_layBoxes 127 = .ok (.goto (-16), 3) := by decide +kernel
theorem dX10_layBoxes_130 : decode cX10_layBoxes 130 = .ok (.iconst 0, 1) := by decide +kernel
theorem dX10_layBoxes_131 : decode cX10_layBoxes 131 = .ok (.istore_n 1, 1) := by decide +kernel
theorem dX10_layBoxes_132 : decode cX10_layBoxes 132 = .ok (.iload_n 1, 1) := by decide +kernel
theorem dX10_layBoxes_133 : decode cX10_layBoxes 133 = .ok (.bipush 28, 2) := by decide +kernel
theorem dX10_layBoxes_135 : decode cX10_layBoxes 135 = .ok (.if_icmp .ge 33, 3) := by decide +kernel
theorem dX10_layBoxes_138 : decode cX10_layBoxes 138 = .ok (.aload_n 0, 1) := by decide +kernel
theorem dX10_layBoxes_139 : decode cX10_layBoxes 139 = .ok (.getfield 38, 3) := by decide +kernel
theorem dX10_layBoxes_142 : decode cX10_layBoxes 142 = .ok (.iload_n 1, 1) := by decide +kernel
theorem dX10_layBoxes_143 : decode cX10_layBoxes 143 = .ok (.baload, 1) := by decide +kernel
theorem dX10_layBoxes_144 : decode cX10_layBoxes 144 = .ok (.ifCond .eq 18, 3) := by decide +kernel
theorem dX10_layBoxes_147 : decode cX10_layBoxes 147 = .ok (.aload_n 0, 1) := by decide +kernel
theorem dX10_layBoxes_148 : decode cX10_layBoxes 148 = .ok (.getfield 32, 3) := by decide +kernel
theorem dX10_layBoxes_151 : decode cX10_layBoxes 151 = .ok (.aload_n 0, 1) := by decide +kernel
theorem dX10_layBoxes_152 : decode cX10_layBoxes 152 = .ok (.getfield 35, 3) := by decide +kernel
theorem dX10_layBoxes_155 : decode cX10_layBoxes 155 = .ok (.iload_n 1, 1) := by decide +kernel
theorem dX10_layBoxes_156 : decode cX10_layBoxes 156 = .ok (.iaload, 1) := by decide +kernel
theorem dX10_layBoxes_157 : decode cX10_layBoxes 157 = .ok (.dup2, 1) := by decide +kernel
theorem dX10_layBoxes_158 : decode cX10_layBoxes 158 = .ok (.iaload, 1) := by decide +kernel
theorem dX10_layBoxes_159 : decode cX10_layBoxes 159 = .ok (.iconst 1, 1) := by decide +kernel
theorem dX10_layBoxes_160 : decode cX10_layBoxes 160 = .ok (.iadd, 1) := by decide +kernel
theorem dX10_layBoxes_161 : decode cX10_layBoxes 161 = .ok (.iastore, 1) := by decide +kernel
theorem dX10_layBoxes_162 : decode cX10_layBoxes 162 = .ok (.iinc 1 1, 3) := by decide +kernel
theorem dX10_layBoxes_165 : decode cX10_layBoxes 165 = .ok (.goto (-33), 3) := by decide +kernel
theorem dX10_layBoxes_168 : decode cX10_layBoxes 168 = .ok (.return_, 1) := by decide +kernel
theorem dX10_lay_0 : decode cX10_lay 0 = .ok (.aload_n 0, 1) := by decide +kernel
theorem dX10_lay_1 : decode cX10_lay 1 = .ok (.invokevirtual 138, 3) := by decide +kernel
theorem dX10_lay_4 : decode cX10_lay 4 = .ok (.aload_n 0, 1) := by decide +kernel
theorem dX10_lay_5 : decode cX10_lay 5 = .ok (.invokevirtual 141, 3) := by decide +kernel
theorem dX10_lay_8 : decode cX10_lay 8 = .ok (.aload_n 0, 1) := by decide +kernel
theorem dX10_lay_9 : decode cX10_lay 9 = .ok (.invokevirtual 144, 3) := by decide +kernel
theorem dX10_lay_12 : decode cX10_lay 12 = .ok (.return_, 1) := by decide +kernel
theorem dX10_layPlaces_0 : decode cX10_layPlaces 0 = .ok (.iconst 0, 1) := by decide +kernel
theorem dX10_layPlaces_1 : decode cX10_layPlaces 1 = .ok (.istore_n 1, 1) := by decide +kernel
theorem dX10_layPlaces_2 : decode cX10_layPlaces 2 = .ok (.iload_n 1, 1) := by decide +kernel
theorem dX10_layPlaces_3 : decode cX10_layPlaces 3 = .ok (.bipush 28, 2) := by decide +kernel
theorem dX10_layPlaces_5 : decode cX10_layPlaces 5 = .ok (.if_icmp .ge 39, 3) := by decide +kernel
theorem dX10_layPlaces_8 : decode cX10_layPlaces 8 = .ok (.aload_n 0, 1) := by decide +kernel
theorem dX10_layPlaces_9 : decode cX10_layPlaces 9 = .ok (.getfield 38, 3) := by decide +kernel
theorem dX10_layPlaces_12 : decode cX10_layPlaces 12 = .ok (.iload_n 1, 1) := by decide +kernel
theorem dX10_layPlaces_13 : decode cX10_layPlaces 13 = .ok (.baload, 1) := by decide +kernel
theorem dX10_layPlaces_14 : decode cX10_layPlaces 14 = .ok (.ifCond .eq 24, 3) := by decide +kernel
theorem dX10_layPlaces_17 : decode cX10_layPlaces 17 = .ok (.aload_n 0, 1) := by decide +kernel
theorem dX10_layPlaces_18 : decode cX10_layPlaces 18 = .ok (.getfield 42, 3) := by decide +kernel
theorem dX10_layPlaces_21 : decode cX10_layPlaces 21 = .ok (.bipush 28, 2) := by decide +kernel
theorem dX10_layPlaces_23 : decode cX10_layPlaces 23 = .ok (.aload_n 0, 1) := by decide +kernel
theorem dX10_layPlaces_24 : decode cX10_layPlaces 24 = .ok (.getfield 35, 3) := by decide +kernel
theorem dX10_layPlaces_27 : decode cX10_layPlaces 27 = .ok (.iload_n 1, 1) := by decide +kernel
theorem dX10_layPlaces_28 : decode cX10_layPlaces 28 = .ok (.iaload, 1) := by decide +kernel
theorem dX10_layPlaces_29 : decode cX10_layPlaces 29 = .ok (.imul, 1) := by decide +kernel
theorem dX10_layPlaces_30 : decode cX10_layPlaces 30 = .ok (.aload_n 0, 1) := by decide +kernel
theorem dX10_layPlaces_31 : decode cX10_layPlaces 31 = .ok (.iload_n 1, 1) := by decide +kernel
theorem dX10_layPlaces_32 : decode cX10_layPlaces 32 = .ok (.invokevirtual 147, 3) := by decide +kernel
theorem dX10_layPlaces_35 : decode cX10_layPlaces 35 = .ok (.iadd, 1) := by decide +kernel
theorem dX10_layPlaces_36 : decode cX10_layPlaces 36 = .ok (.iload_n 1, 1) := by decide +kernel
theorem dX10_layPlaces_37 : decode cX10_layPlaces 37 = .ok (.iastore, 1) := by decide +kernel
theorem dX10_layPlaces_38 : decode cX10_layPlaces 38 = .ok (.iinc 1 1, 3) := by decide +kernel
theorem dX10_layPlaces_41 : decode cX10_layPlaces 41 = .ok (.goto (-39), 3) := by decide +kernel
theorem dX10_layPlaces_44 : decode cX10_layPlaces 44 = .ok (.return_, 1) := by decide +kernel
theorem dX10_makePlain_0 : decode cX10_makePlain 0 = .ok (.aload_n 0, 1) := by decide +kernel
theorem dX10_makePlain_1 : decode cX10_makePlain 1 = .ok (.invokevirtual 138, 3) := by decide +kernel
theorem dX10_makePlain_4 : decode cX10_makePlain 4 = .ok (.aload_n 0, 1) := by decide +kernel
theorem dX10_makePlain_5 : decode cX10_makePlain 5 = .ok (.invokevirtual 141, 3) := by decide +kernel
theorem dX10_makePlain_8 : decode cX10_makePlain 8 = .ok (.iconst 0, 1) := by decide +kernel
theorem dX10_makePlain_9 : decode cX10_makePlain 9 = .ok (.istore_n 1, 1) := by decide +kernel
theorem dX10_makePlain_10 : decode cX10_makePlain 10 = .ok (.iload_n 1, 1) := by decide +kernel
theorem dX10_makePlain_11 : decode cX10_makePlain 11 = .ok (.aload_n 0, 1) := by decide +kernel
theorem dX10_makePlain_12 : decode cX10_makePlain 12 = .ok (.getfield 132, 3) := by decide +kernel
theorem dX10_makePlain_15 : decode cX10_makePlain 15 = .ok (.if_icmp .ge 58, 3) := by decide +kernel
theorem dX10_makePlain_18 : decode cX10_makePlain 18 = .ok (.iconst 0, 1) := by decide +kernel
theorem dX10_makePlain_19 : decode cX10_makePlain 19 = .ok (.istore_n 2, 1) := by decide +kernel
theorem dX10_makePlain_20 : decode cX10_makePlain 20 = .ok (.iconst 0, 1) := by decide +kernel
theorem dX10_makePlain_21 : decode cX10_makePlain 21 = .ok (.istore_n 3, 1) := by decide +kernel
theorem dX10_makePlain_22 : decode cX10_makePlain 22 = .ok (.iload_n 3, 1) := by decide +kernel
theorem dX10_makePlain_23 : decode cX10_makePlain 23 = .ok (.bipush 28, 2) := by decide +kernel
theorem dX10_makePlain_25 : decode cX10_makePlain 25 = .ok (.if_icmp .ge 42, 3) := by decide +kernel
theorem dX10_makePlain_28 : decode cX10_makePlain 28 = .ok (.aload_n 0, 1) := by decide +kernel
theorem dX10_makePlain_29 : decode cX10_makePlain 29 = .ok (.getfield 38, 3) := by decide +kernel
theorem dX10_makePlain_32 : decode cX10_makePlain 32 = .ok (.iload_n 3, 1) := by decide +kernel
theorem dX10_makePlain_33 : decode cX10_makePlain 33 = .ok (.baload, 1) := by decide +kernel
theorem dX10_makePlain_34 : decode cX10_makePlain 34 = .ok (.ifCond .eq 27, 3) := by decide +kernel
theorem dX10_makePlain_37 : decode cX10_makePlain 37 = .ok (.aload_n 0, 1) := by decide +kernel
theorem dX10_makePlain_38 : decode cX10_makePlain 38 = .ok (.getfield 35, 3) := by decide +kernel
theorem dX10_makePlain_41 : decode cX10_makePlain 41 = .ok (.iload_n 3, 1) := by decide +kernel
theorem dX10_makePlain_42 : decode cX10_makePlain 42 = .ok (.iaload, 1) := by decide +kernel
theorem dX10_makePlain_43 : decode cX10_makePlain 43 = .ok (.iload_n 1, 1) := by decide +kernel
theorem dX10_makePlain_44 : decode cX10_makePlain 44 = .ok (.if_icmp .ne 17, 3) := by decide +kernel
theorem dX10_makePlain_47 : decode cX10_makePlain 47 = .ok (.aload_n 0, 1) := by decide +kernel
theorem dX10_makePlain_48 : decode cX10_makePlain 48 = .ok (.getfield 22, 3) := by decide +kernel
theorem dX10_makePlain_51 : decode cX10_makePlain 51 = .ok (.bipush 102, 2) := by decide +kernel
theorem dX10_makePlain_53 : decode cX10_makePlain 53 = .ok (.iload_n 3, 1) := by decide +kernel
theorem dX10_makePlain_54 : decode cX10_makePlain 54 = .ok (.iadd, 1) := by decide +kernel
theorem dX10_makePlain_55 : decode cX10_makePlain 55 = .ok (.iload_n 2, 1) := by decide +kernel
theorem dX10_makePlain_56 : decode cX10_makePlain 56 = .ok (.i2l, 1) := by decide +kernel
theorem dX10_makePlain_57 : decode cX10_makePlain 57 = .ok (.lastore, 1) := by decide +kernel
theorem dX10_makePlain_58 : decode cX10_makePlain 58 = .ok (.iinc 2 1, 3) := by decide +kernel
theorem dX10_makePlain_61 : decode cX10_makePlain 61 = .ok (.iinc 3 1, 3) := by decide +kernel
theorem dX10_makePlain_64 : decode cX10_makePlain 64 = .ok (.goto (-42), 3) := by decide +kernel
theorem dX10_makePlain_67 : decode cX10_makePlain 67 = .ok (.iinc 1 1, 3) := by decide +kernel
theorem dX10_makePlain_70 : decode cX10_makePlain 70 = .ok (.goto (-60), 3) := by decide +kernel
theorem dX10_makePlain_73 : decode cX10_makePlain 73 = .ok (.aload_n 0, 1) := by decide +kernel
theorem dX10_makePlain_74 : decode cX10_makePlain 74 = .ok (.invokevirtual 144, 3) := by decide +kernel
theorem dX10_makePlain_77 : decode cX10_makePlain 77 = .ok (.return_, 1) := by decide +kernel
theorem dX10_placeOf_0 : decode cX10_placeOf 0 = .ok (.aload_n 0, 1) := by decide +kernel
theorem dX10_placeOf_1 : decode cX10_placeOf 1 = .ok (.getfield 22, 3) := by decide +kernel
theorem dX10_placeOf_4 : decode cX10_placeOf 4 = .ok (.bipush 102, 2) := by decide +kernel
theorem dX10_placeOf_6 : decode cX10_placeOf 6 = .ok (.iload_n 1, 1) := by decide +kernel
theorem dX10_placeOf_7 : decode cX10_placeOf 7 = .ok (.iadd, 1) := by decide +kernel
theorem dX10_placeOf_8 : decode cX10_placeOf 8 = .ok (.laload, 1) := by decide +kernel
theorem dX10_placeOf_9 : decode cX10_placeOf 9 = .ok (.l2i, 1) := by decide +kernel
theorem dX10_placeOf_10 : decode cX10_placeOf 10 = .ok (.ireturn, 1) := by decide +kernel
theorem dX10_boxIn_0 : decode cX10_boxIn 0 = .ok (.aload_n 0, 1) := by decide +kernel
theorem dX10_boxIn_1 : decode cX10_boxIn 1 = .ok (.getfield 42, 3) := by decide +kernel
theorem dX10_boxIn_4 : decode cX10_boxIn 4 = .ok (.bipush 28, 2) := by decide +kernel
theorem dX10_boxIn_6 : decode cX10_boxIn 6 = .ok (.iload_n 1, 1) := by decide +kernel
theorem dX10_boxIn_7 : decode cX10_boxIn 7 = .ok (.imul, 1) := by decide +kernel
theorem dX10_boxIn_8 : decode cX10_boxIn 8 = .ok (.iload_n 2, 1) := by decide +kernel
theorem dX10_boxIn_9 : decode cX10_boxIn 9 = .ok (.iadd, 1) := by decide +kernel
theorem dX10_boxIn_10 : decode cX10_boxIn 10 = .ok (.iaload, 1) := by decide +kernel
theorem dX10_boxIn_11 : decode cX10_boxIn 11 = .ok (.ireturn, 1) := by decide +kernel
theorem dX10_personOf_0 : decode cX10_personOf 0 = .ok (.iload_n 1, 1) := by decide +kernel
theorem dX10_personOf_1 : decode cX10_personOf 1 = .ok (.bipush 16, 2) := by decide +kernel
theorem dX10_personOf_3 : decode cX10_personOf 3 = .ok (.if_icmp .ge 7, 3) := by decide +kernel
theorem dX10_personOf_6 : decode cX10_personOf 6 = .ok (.iload_n 1, 1) := by decide +kernel
theorem dX10_personOf_7 : decode cX10_personOf 7 = .ok (.goto 11, 3) := by decide +kernel
theorem dX10_personOf_10 : decode cX10_personOf 10 = .ok (.aload_n 0, 1) := by decide +kernel
theorem dX10_personOf_11 : decode cX10_personOf 11 = .ok (.iload_n 1, 1) := by decide +kernel
theorem dX10_personOf_12 : decode cX10_personOf 12 = .ok (.bipush 16, 2) := by decide +kernel
theorem dX10_personOf_14 : decode cX10_personOf 14 = .ok (.isub, 1) := by decide +kernel
theorem dX10_personOf_15 : decode cX10_personOf 15 = .ok (.invokevirtual 135, 3) := by decide +kernel
theorem dX10_personOf_18 : decode cX10_personOf 18 = .ok (.ireturn, 1) := by decide +kernel
theorem dX10_partnerBox_0 : decode cX10_partnerBox 0 = .ok (.aload_n 0, 1) := by decide +kernel
theorem dX10_partnerBox_1 : decode cX10_partnerBox 1 = .ok (.iload_n 1, 1) := by decide +kernel
theorem dX10_partnerBox_2 : decode cX10_partnerBox 2 = .ok (.iload_n 2, 1) := by decide +kernel
theorem dX10_partnerBox_3 : decode cX10_partnerBox 3 = .ok (.invokevirtual 102, 3) := by decide +kernel
theorem dX10_partnerBox_6 : decode cX10_partnerBox 6 = .ok (.istore_n 3, 1) := by decide +kernel
theorem dX10_partnerBox_7 : decode cX10_partnerBox 7 = .ok (.aload_n 0, 1) := by decide +kernel
theorem dX10_partnerBox_8 : decode cX10_partnerBox 8 = .ok (.getfield 25, 3) := by decide +kernel
theorem dX10_partnerBox_11 : decode cX10_partnerBox 11 = .ok (.iload_n 3, 1) := by decide +kernel
theorem dX10_partnerBox_12 : decode cX10_partnerBox 12 = .ok (.iaload, 1) := by decide +kernel
theorem dX10_partnerBox_13 : decode cX10_partnerBox 13 = .ok (.aload_n 0, 1) := by decide +kernel
theorem dX10_partnerBox_14 : decode cX10_partnerBox 14 = .ok (.getfield 29, 3) := by decide +kernel
theorem dX10_partnerBox_17 : decode cX10_partnerBox 17 = .ok (.iload_n 1, 1) := by decide +kernel
theorem dX10_partnerBox_18 : decode cX10_partnerBox 18 = .ok (.iaload, 1) := by decide +kernel
theorem dX10_partnerBox_19 : decode cX10_partnerBox 19 = .ok (.if_icmp .ge 10, 3) := by decide +kernel
theorem dX10_partnerBox_22 : decode cX10_partnerBox 22 = .ok (.bipush 16, 2) := by decide +kernel
theorem dX10_partnerBox_24 : decode cX10_partnerBox 24 = .ok (.iload_n 1, 1) := by decide +kernel
theorem dX10_partnerBox_25 : decode cX10_partnerBox 25 = .ok (.iadd, 1) := by decide +kernel
theorem dX10_partnerBox_26 : decode cX10_partnerBox 26 = .ok (.goto 4, 3) := by decide +kernel
theorem dX10_partnerBox_29 : decode cX10_partnerBox 29 = .ok (.iload_n 3, 1) := by decide +kernel
theorem dX10_partnerBox_30 : decode cX10_partnerBox 30 = .ok (.ireturn, 1) := by decide +kernel
theorem dX10_middle_0 : decode cX10_middle 0 = .ok (.aload_n 0, 1) := by decide +kernel
theorem dX10_middle_1 : decode cX10_middle 1 = .ok (.aload_n 0, 1) := by decide +kernel
theorem dX10_middle_2 : decode cX10_middle 2 = .ok (.iload_n 1, 1) := by decide +kernel
theorem dX10_middle_3 : decode cX10_middle 3 = .ok (.iconst 0, 1) := by decide +kernel
theorem dX10_middle_4 : decode cX10_middle 4 = .ok (.invokevirtual 150, 3) := by decide +kernel
theorem dX10_middle_7 : decode cX10_middle 7 = .ok (.invokevirtual 147, 3) := by decide +kernel
theorem dX10_middle_10 : decode cX10_middle 10 = .ok (.aload_n 0, 1) := by decide +kernel
theorem dX10_middle_11 : decode cX10_middle 11 = .ok (.aload_n 0, 1) := by decide +kernel
theorem dX10_middle_12 : decode cX10_middle 12 = .ok (.iload_n 1, 1) := by decide +kernel
theorem dX10_middle_13 : decode cX10_middle 13 = .ok (.iconst 1, 1) := by decide +kernel
theorem dX10_middle_14 : decode cX10_middle 14 = .ok (.invokevirtual 150, 3) := by decide +kernel
theorem dX10_middle_17 : decode cX10_middle 17 = .ok (.invokevirtual 147, 3) := by decide +kernel
theorem dX10_middle_20 : decode cX10_middle 20 = .ok (.iadd, 1) := by decide +kernel
theorem dX10_middle_21 : decode cX10_middle 21 = .ok (.ireturn, 1) := by decide +kernel
theorem dX10_exchange_0 : decode cX10_exchange 0 = .ok (.aload_n 0, 1) := by decide +kernel
theorem dX10_exchange_1 : decode cX10_exchange 1 = .ok (.iload_n 1, 1) := by decide +kernel
theorem dX10_exchange_2 : decode cX10_exchange 2 = .ok (.iload_n 2, 1) := by decide +kernel
theorem dX10_exchange_3 : decode cX10_exchange 3 = .ok (.invokevirtual 153, 3) := by decide +kernel
theorem dX10_exchange_6 : decode cX10_exchange 6 = .ok (.istore 4, 2) := by decide +kernel
theorem dX10_exchange_8 : decode cX10_exchange 8 = .ok (.aload_n 0, 1) := by decide +kernel
theorem dX10_exchange_9 : decode cX10_exchange 9 = .ok (.iload_n 1, 1) := by decide +kernel
theorem dX10_exchange_10 : decode cX10_exchange 10 = .ok (.iload_n 3, 1) := by decide +kernel
theorem dX10_exchange_11 : decode cX10_exchange 11 = .ok (.invokevirtual 153, 3) := by decide +kernel
theorem dX10_exchange_14 : decode cX10_exchange 14 = .ok (.istore 5, 2) := by decide +kernel
theorem dX10_exchange_16 : decode cX10_exchange 16 = .ok (.aload_n 0, 1) := by decide +kernel
theorem dX10_exchange_17 : decode cX10_exchange 17 = .ok (.getfield 22, 3) := by decide +kernel
theorem dX10_exchange_20 : decode cX10_exchange 20 = .ok (.bipush 102, 2) := by decide +kernel
theorem dX10_exchange_22 : decode cX10_exchange 22 = .ok (.iload 4, 2) := by decide +kernel
theorem dX10_exchange_24 : decode cX10_exchange 24 = .ok (.iadd, 1) := by decide +kernel
theorem dX10_exchange_25 : decode cX10_exchange 25 = .ok (.iload_n 3, 1) := by decide +kernel
theorem dX10_exchange_26 : decode cX10_exchange 26 = .ok (.i2l, 1) := by decide +kernel
theorem dX10_exchange_27 : decode cX10_exchange 27 = .ok (.lastore, 1) := by decide +kernel
theorem dX10_exchange_28 : decode cX10_exchange 28 = .ok (.aload_n 0, 1) := by decide +kernel
theorem dX10_exchange_29 : decode cX10_exchange 29 = .ok (.getfield 22, 3) := by decide +kernel
theorem dX10_exchange_32 : decode cX10_exchange 32 = .ok (.bipush 102, 2) := by decide +kernel
theorem dX10_exchange_34 : decode cX10_exchange 34 = .ok (.iload 5, 2) := by decide +kernel
theorem dX10_exchange_36 : decode cX10_exchange 36 = .ok (.iadd, 1) := by decide +kernel
theorem dX10_exchange_37 : decode cX10_exchange 37 = .ok (.iload_n 2, 1) := by decide +kernel
theorem dX10_exchange_38 : decode cX10_exchange 38 = .ok (.i2l, 1) := by decide +kernel
theorem dX10_exchange_39 : decode cX10_exchange 39 = .ok (.lastore, 1) := by decide +kernel
theorem dX10_exchange_40 : decode cX10_exchange 40 = .ok (.aload_n 0, 1) := by decide +kernel
theorem dX10_exchange_41 : decode cX10_exchange 41 = .ok (.getfield 42, 3) := by decide +kernel
theorem dX10_exchange_44 : decode cX10_exchange 44 = .ok (.bipush 28, 2) := by decide +kernel
theorem dX10_exchange_46 : decode cX10_exchange 46 = .ok (.iload_n 1, 1) := by decide +kernel
theorem dX10_exchange_47 : decode cX10_exchange 47 = .ok (.imul, 1) := by decide +kernel
theorem dX10_exchange_48 : decode cX10_exchange 48 = .ok (.iload_n 2, 1) := by decide +kernel
theorem dX10_exchange_49 : decode cX10_exchange 49 = .ok (.iadd, 1) := by decide +kernel
theorem dX10_exchange_50 : decode cX10_exchange 50 = .ok (.iload 5, 2) := by decide +kernel
theorem dX10_exchange_52 : decode cX10_exchange 52 = .ok (.iastore, 1) := by decide +kernel
theorem dX10_exchange_53 : decode cX10_exchange 53 = .ok (.aload_n 0, 1) := by decide +kernel
theorem dX10_exchange_54 : decode cX10_exchange 54 = .ok (.getfield 42, 3) := by decide +kernel
theorem dX10_exchange_57 : decode cX10_exchange 57 = .ok (.bipush 28, 2) := by decide +kernel
theorem dX10_exchange_59 : decode cX10_exchange 59 = .ok (.iload_n 1, 1) := by decide +kernel
theorem dX10_exchange_60 : decode cX10_exchange 60 = .ok (.imul, 1) := by decide +kernel
theorem dX10_exchange_61 : decode cX10_exchange 61 = .ok (.iload_n 3, 1) := by decide +kernel
theorem dX10_exchange_62 : decode cX10_exchange 62 = .ok (.iadd, 1) := by decide +kernel
theorem dX10_exchange_63 : decode cX10_exchange 63 = .ok (.iload 4, 2) := by decide +kernel
theorem dX10_exchange_65 : decode cX10_exchange 65 = .ok (.iastore, 1) := by decide +kernel
theorem dX10_exchange_66 : decode cX10_exchange 66 = .ok (.return_, 1) := by decide +kernel
theorem dX10_isBetween_0 : decode cX10_isBetween 0 = .ok (.iload_n 0, 1) := by decide +kernel
theorem dX10_isBetween_1 : decode cX10_isBetween 1 = .ok (.iload_n 1, 1) := by decide +kernel
theorem dX10_isBetween_2 : decode cX10_isBetween 2 = .ok (.iload_n 2, 1) := by decide +kernel
theorem dX10_isBetween_3 : decode cX10_isBetween 3 = .ok (.invokestatic 156, 3) := by decide +kernel
theorem dX10_isBetween_6 : decode cX10_isBetween 6 = .ok (.if_icmp .le 16, 3) := by decide +kernel
theorem dX10_isBetween_9 : decode cX10_isBetween 9 = .ok (.iload_n 0, 1) := by decide +kernel
theorem dX10_isBetween_10 : decode cX10_isBetween 10 = .ok (.iload_n 1, 1) := by decide +kernel
theorem dX10_isBetween_11 : decode cX10_isBetween 11 = .ok (.iload_n 2, 1) := by decide +kernel
theorem dX10_isBetween_12 : decode cX10_isBetween 12 = .ok (.invokestatic 124, 3) := by decide +kernel
theorem dX10_isBetween_15 : decode cX10_isBetween 15 = .ok (.if_icmp .ge 7, 3) := by decide +kernel
theorem dX10_isBetween_18 : decode cX10_isBetween 18 = .ok (.iconst 1, 1) := by decide +kernel
theorem dX10_isBetween_19 : decode cX10_isBetween 19 = .ok (.goto 4, 3) := by decide +kernel
theorem dX10_isBetween_22 : decode cX10_isBetween 22 = .ok (.iconst 0, 1) := by decide +kernel
theorem dX10_isBetween_23 : decode cX10_isBetween 23 = .ok (.ireturn, 1) := by decide +kernel
theorem dX10_doCross_0 : decode cX10_doCross 0 = .ok (.aload_n 0, 1) := by decide +kernel
theorem dX10_doCross_1 : decode cX10_doCross 1 = .ok (.aload_n 0, 1) := by decide +kernel
theorem dX10_doCross_2 : decode cX10_doCross 2 = .ok (.iload_n 1, 1) := by decide +kernel
theorem dX10_doCross_3 : decode cX10_doCross 3 = .ok (.iconst 0, 1) := by decide +kernel
theorem dX10_doCross_4 : decode cX10_doCross 4 = .ok (.invokevirtual 150, 3) := by decide +kernel
theorem dX10_doCross_7 : decode cX10_doCross 7 = .ok (.invokevirtual 147, 3) := by decide +kernel
theorem dX10_doCross_10 : decode cX10_doCross 10 = .ok (.istore_n 3, 1) := by decide +kernel
theorem dX10_doCross_11 : decode cX10_doCross 11 = .ok (.aload_n 0, 1) := by decide +kernel
theorem dX10_doCross_12 : decode cX10_doCross 12 = .ok (.aload_n 0, 1) := by decide +kernel
theorem dX10_doCross_13 : decode cX10_doCross 13 = .ok (.iload_n 1, 1) := by decide +kernel
theorem dX10_doCross_14 : decode cX10_doCross 14 = .ok (.iconst 1, 1) := by decide +kernel
theorem dX10_doCross_15 : decode cX10_doCross 15 = .ok (.invokevirtual 150, 3) := by decide +kernel
theorem dX10_doCross_18 : decode cX10_doCross 18 = .ok (.invokevirtual 147, 3) := by decide +kernel
theorem dX10_doCross_21 : decode cX10_doCross 21 = .ok (.istore 4, 2) := by decide +kernel
theorem dX10_doCross_23 : decode cX10_doCross 23 = .ok (.aload_n 0, 1) := by decide +kernel
theorem dX10_doCross_24 : decode cX10_doCross 24 = .ok (.aload_n 0, 1) := by decide +kernel
theorem dX10_doCross_25 : decode cX10_doCross 25 = .ok (.iload_n 2, 1) := by decide +kernel
theorem dX10_doCross_26 : decode cX10_doCross 26 = .ok (.iconst 0, 1) := by decide +kernel
theorem dX10_doCross_27 : decode cX10_doCross 27 = .ok (.invokevirtual 150, 3) := by decide +kernel
theorem dX10_doCross_30 : decode cX10_doCross 30 = .ok (.invokevirtual 147, 3) := by decide +kernel
theorem dX10_doCross_33 : decode cX10_doCross 33 = .ok (.istore 5, 2) := by decide +kernel
theorem dX10_doCross_35 : decode cX10_doCross 35 = .ok (.aload_n 0, 1) := by decide +kernel
theorem dX10_doCross_36 : decode cX10_doCross 36 = .ok (.aload_n 0, 1) := by decide +kernel
theorem dX10_doCross_37 : decode cX10_doCross 37 = .ok (.iload_n 2, 1) := by decide +kernel
theorem dX10_doCross_38 : decode cX10_doCross 38 = .ok (.iconst 1, 1) := by decide +kernel
theorem dX10_doCross_39 : decode cX10_doCross 39 = .ok (.invokevirtual 150, 3) := by decide +kernel
theorem dX10_doCross_42 : decode cX10_doCross 42 = .ok (.invokevirtual 147, 3) := by decide +kernel
theorem dX10_doCross_45 : decode cX10_doCross 45 = .ok (.istore 6, 2) := by decide +kernel
theorem dX10_doCross_47 : decode cX10_doCross 47 = .ok (.iload_n 3, 1) := by decide +kernel
theorem dX10_doCross_48 : decode cX10_doCross 48 = .ok (.iload 5, 2) := by decide +kernel
theorem dX10_doCross_50 : decode cX10_doCross 50 = .ok (.if_icmp .eq 27, 3) := by decide +kernel
theorem dX10_doCross_53 : decode cX10_doCross 53 = .ok (.iload_n 3, 1) := by decide +kernel
theorem dX10_doCross_54 : decode cX10_doCross 54 = .ok (.iload 6, 2) := by decide +kernel
theorem dX10_doCross_56 : decode cX10_doCross 56 = .ok (.if_icmp .eq 21, 3) := by decide +kernel
theorem dX10_doCross_59 : decode cX10_doCross 59 = .ok (.iload 4, 2) := by decide +kernel
theorem dX10_doCross_61 : decode cX10_doCross 61 = .ok (.iload 5, 2) := by decide +kernel
theorem dX10_doCross_63 : decode cX10_doCross 63 = .ok (.if_icmp .eq 14, 3) := by decide +kernel
theorem dX10_doCross_66 : decode cX10_doCross 66 = .ok (.iload 4, 2) := by decide +kernel
theorem dX10_doCross_68 : decode cX10_doCross 68 = .ok (.iload 6, 2) := by decide +kernel
theorem dX10_doCross_70 : decode cX10_doCross 70 = .ok (.if_icmp .eq 7, 3) := by decide +kernel
theorem dX10_doCross_73 : decode cX10_doCross 73 = .ok (.iconst 1, 1) := by decide +kernel
theorem dX10_doCross_74 : decode cX10_doCross 74 = .ok (.goto 4, 3) := by decide +kernel
theorem dX10_doCross_77 : decode cX10_doCross 77 = .ok (.iconst 0, 1) := by decide +kernel
theorem dX10_doCross_78 : decode cX10_doCross 78 = .ok (.istore 7, 2) := by decide +kernel
theorem dX10_doCross_80 : decode cX10_doCross 80 = .ok (.iload 7, 2) := by decide +kernel
theorem dX10_doCross_82 : decode cX10_doCross 82 = .ok (.ifCond .eq 26, 3) := by decide +kernel
theorem dX10_doCross_85 : decode cX10_doCross 85 = .ok (.iload 5, 2) := by decide +kernel
theorem dX10_doCross_87 : decode cX10_doCross 87 = .ok (.iload_n 3, 1) := by decide +kernel
theorem dX10_doCross_88 : decode cX10_doCross 88 = .ok (.iload 4, 2) := by decide +kernel
theorem dX10_doCross_90 : decode cX10_doCross 90 = .ok (.invokestatic 159, 3) := by decide +kernel
theorem dX10_doCross_93 : decode cX10_doCross 93 = .ok (.iload 6, 2) := by decide +kernel
theorem dX10_doCross_95 : decode cX10_doCross 95 = .ok (.iload_n 3, 1) := by decide +kernel
theorem dX10_doCross_96 : decode cX10_doCross 96 = .ok (.iload 4, 2) := by decide +kernel
theorem dX10_doCross_98 : decode cX10_doCross 98 = .ok (.invokestatic 159, 3) := by decide +kernel
theorem dX10_doCross_101 : decode cX10_doCross 101 = .ok (.if_icmp .eq 7, 3) := by decide +kernel
theorem dX10_doCross_104 : decode cX10_doCross 104 = .ok (.iconst 1, 1) := by decide +kernel
theorem dX10_doCross_105 : decode cX10_doCross 105 = .ok (.goto 4, 3) := by decide +kernel
theorem dX10_doCross_108 : decode cX10_doCross 108 = .ok (.iconst 0, 1) := by decide +kernel
theorem dX10_doCross_109 : decode cX10_doCross 109 = .ok (.ireturn, 1) := by decide +kernel
theorem dX10_crossingsIn_0 : decode cX10_crossingsIn 0 = .ok (.iconst 0, 1) := by decide +kernel
theorem dX10_crossingsIn_1 : decode cX10_crossingsIn 1 = .ok (.istore_n 2, 1) := by decide +kernel
theorem dX10_crossingsIn_2 : decode cX10_crossingsIn 2 = .ok (.iconst 0, 1) := by decide +kernel
theorem dX10_crossingsIn_3 : decode cX10_crossingsIn 3 = .ok (.istore_n 3, 1) := by decide +kernel
theorem dX10_crossingsIn_4 : decode cX10_crossingsIn 4 = .ok (.iload_n 3, 1) := by decide +kernel
theorem dX10_crossingsIn_5 : decode cX10_crossingsIn 5 = .ok (.aload_n 0, 1) := by decide +kernel
theorem dX10_crossingsIn_6 : decode cX10_crossingsIn 6 = .ok (.invokevirtual 110, 3) := by decide +kernel
theorem dX10_crossingsIn_9 : decode cX10_crossingsIn 9 = .ok (.if_icmp .ge 63, 3) := by decide +kernel
theorem dX10_crossingsIn_12 : decode cX10_crossingsIn 12 = .ok (.iconst 0, 1) := by decide +kernel
theorem dX10_crossingsIn_13 : decode cX10_crossingsIn 13 = .ok (.istore 4, 2) := by decide +kernel
theorem dX10_crossingsIn_15 : decode cX10_crossingsIn 15 = .ok (.iload 4, 2) := by decide +kernel
theorem dX10_crossingsIn_17 : decode cX10_crossingsIn 17 = .ok (.iload_n 3, 1) := by decide +kernel
theorem dX10_crossingsIn_18 : decode cX10_crossingsIn 18 = .ok (.if_icmp .ge 48, 3) := by decide +kernel
theorem dX10_crossingsIn_21 : decode cX10_crossingsIn 21 = .ok (.aload_n 0, 1) := by decide +kernel
theorem dX10_crossingsIn_22 : decode cX10_crossingsIn 22 = .ok (.getfield 29, 3) := by decide +kernel
theorem dX10_crossingsIn_25 : decode cX10_crossingsIn 25 = .ok (.iload_n 3, 1) := by decide +kernel
theorem dX10_crossingsIn_26 : decode cX10_crossingsIn 26 = .ok (.iaload, 1) := by decide +kernel
theorem dX10_crossingsIn_27 : decode cX10_crossingsIn 27 = .ok (.iload_n 1, 1) := by decide +kernel
theorem dX10_crossingsIn_28 : decode cX10_crossingsIn 28 = .ok (.if_icmp .ne 38, 3) := by decide +kernel
theorem dX10_crossingsIn_31 : decode cX10_crossingsIn 31 = .ok (.iload_n 2, 1) := by decide +kernel
theorem dX10_crossingsIn_32 : decode cX10_crossingsIn 32 = .ok (.aload_n 0, 1) := by decide +kernel
theorem dX10_crossingsIn_33 : decode cX10_crossingsIn 33 = .ok (.getfield 29, 3) := by decide +kernel
theorem dX10_crossingsIn_36 : decode cX10_crossingsIn 36 = .ok (.iload 4, 2) := by decide +kernel
theorem dX10_crossingsIn_38 : decode cX10_crossingsIn 38 = .ok (.iaload, 1) := by decide +kernel
theorem dX10_crossingsIn_39 : decode cX10_crossingsIn 39 = .ok (.iload_n 1, 1) := by decide +kernel
theorem dX10_crossingsIn_40 : decode cX10_crossingsIn 40 = .ok (.if_icmp .ne 17, 3) := by decide +kernel
theorem dX10_crossingsIn_43 : decode cX10_crossingsIn 43 = .ok (.aload_n 0, 1) := by decide +kernel
theorem dX10_crossingsIn_44 : decode cX10_crossingsIn 44 = .ok (.iload_n 3, 1) := by decide +kernel
theorem dX10_crossingsIn_45 : decode cX10_crossingsIn 45 = .ok (.iload 4, 2) := by decide +kernel
theorem dX10_crossingsIn_47 : decode cX10_crossingsIn 47 = .ok (.invokevirtual 163, 3) := by decide +kernel
theorem dX10_crossingsIn_50 : decode cX10_crossingsIn 50 = .ok (.ifCond .eq 7, 3) := by decide +kernel
theorem dX10_crossingsIn_53 : decode cX10_crossingsIn 53 = .ok (.iconst 1, 1) := by decide +kernel
theorem dX10_crossingsIn_54 : decode cX10_crossingsIn 54 = .ok (.goto 4, 3) := by decide +kernel
theorem dX10_crossingsIn_57 : decode cX10_crossingsIn 57 = .ok (.iconst 0, 1) := by decide +kernel
theorem dX10_crossingsIn_58 : decode cX10_crossingsIn 58 = .ok (.iadd, 1) := by decide +kernel
theorem dX10_crossingsIn_59 : decode cX10_crossingsIn 59 = .ok (.istore_n 2, 1) := by decide +kernel
theorem dX10_crossingsIn_60 : decode cX10_crossingsIn 60 = .ok (.iinc 4 1, 3) := by decide +kernel
theorem dX10_crossingsIn_63 : decode cX10_crossingsIn 63 = .ok (.goto (-48), 3) := by decide +kernel
theorem dX10_crossingsIn_66 : decode cX10_crossingsIn 66 = .ok (.iinc 3 1, 3) := by decide +kernel
theorem dX10_crossingsIn_69 : decode cX10_crossingsIn 69 = .ok (.goto (-65), 3) := by decide +kernel
theorem dX10_crossingsIn_72 : decode cX10_crossingsIn 72 = .ok (.iload_n 2, 1) := by decide +kernel
theorem dX10_crossingsIn_73 : decode cX10_crossingsIn 73 = .ok (.ireturn, 1) := by decide +kernel
theorem dX10_isChildAt_0 : decode cX10_isChildAt 0 = .ok (.aload_n 0, 1) := by decide +kernel
theorem dX10_isChildAt_1 : decode cX10_isChildAt 1 = .ok (.iload_n 1, 1) := by decide +kernel
theorem dX10_isChildAt_2 : decode cX10_isChildAt 2 = .ok (.invokevirtual 117, 3) := by decide +kernel
theorem dX10_isChildAt_5 : decode cX10_isChildAt 5 = .ok (.iconst (-1), 1) := by decide +kernel
theorem dX10_isChildAt_6 : decode cX10_isChildAt 6 = .ok (.if_icmp .eq 21, 3) := by decide +kernel
theorem dX10_isChildAt_9 : decode cX10_isChildAt 9 = .ok (.aload_n 0, 1) := by decide +kernel
theorem dX10_isChildAt_10 : decode cX10_isChildAt 10 = .ok (.getfield 29, 3) := by decide +kernel
theorem dX10_isChildAt_13 : decode cX10_isChildAt 13 = .ok (.aload_n 0, 1) := by decide +kernel
theorem dX10_isChildAt_14 : decode cX10_isChildAt 14 = .ok (.iload_n 1, 1) := by decide +kernel
theorem dX10_isChildAt_15 : decode cX10_isChildAt 15 = .ok (.invokevirtual 117, 3) := by decide +kernel
theorem dX10_isChildAt_18 : decode cX10_isChildAt 18 = .ok (.iaload, 1) := by decide +kernel
theorem dX10_isChildAt_19 : decode cX10_isChildAt 19 = .ok (.iload_n 2, 1) := by decide +kernel
theorem dX10_isChildAt_20 : decode cX10_isChildAt 20 = .ok (.if_icmp .ne 7, 3) := by decide +kernel
theorem dX10_isChildAt_23 : decode cX10_isChildAt 23 = .ok (.iconst 1, 1) := by decide +kernel
theorem dX10_isChildAt_24 : decode cX10_isChildAt 24 = .ok (.goto 4, 3) := by decide +kernel
theorem dX10_isChildAt_27 : decode cX10_isChildAt 27 = .ok (.iconst 0, 1) := by decide +kernel
theorem dX10_isChildAt_28 : decode cX10_isChildAt 28 = .ok (.ireturn, 1) := by decide +kernel
theorem dX10_crossingsBelow_0 : decode cX10_crossingsBelow 0 = .ok (.iconst 0, 1) := by decide +kernel
theorem dX10_crossingsBelow_1 : decode cX10_crossingsBelow 1 = .ok (.istore_n 2, 1) := by decide +kernel
theorem dX10_crossingsBelow_2 : decode cX10_crossingsBelow 2 = .ok (.iconst 0, 1) := by decide +kernel
theorem dX10_crossingsBelow_3 : decode cX10_crossingsBelow 3 = .ok (.istore_n 3, 1) := by decide +kernel
theorem dX10_crossingsBelow_4 : decode cX10_crossingsBelow 4 = .ok (.iload_n 3, 1) := by decide +kernel
theorem dX10_crossingsBelow_5 : decode cX10_crossingsBelow 5 = .ok (.aload_n 0, 1) := by decide +kernel
theorem dX10_crossingsBelow_6 : decode cX10_crossingsBelow 6 = .ok (.invokevirtual 121, 3) := by decide +kernel
theorem dX10_crossingsBelow_9 : decode cX10_crossingsBelow 9 = .ok (.if_icmp .ge 124, 3) := by decide +kernel
theorem dX10_crossingsBelow_12 : decode cX10_crossingsBelow 12 = .ok (.iconst 0, 1) := by decide +kernel
theorem dX10_crossingsBelow_13 : decode cX10_crossingsBelow 13 = .ok (.istore 4, 2) := by decide +kernel
theorem dX10_crossingsBelow_15 : decode cX10_crossingsBelow 15 = .ok (.iload 4, 2) := by decide +kernel
theorem dX10_crossingsBelow_17 : decode cX10_crossingsBelow 17 = .ok (.iload_n 3, 1) := by decide +kernel
theorem dX10_crossingsBelow_18 : decode cX10_crossingsBelow 18 = .ok (.if_icmp .ge 109, 3) := by decide +kernel
theorem dX10_crossingsBelow_21 : decode cX10_crossingsBelow 21 = .ok (.aload_n 0, 1) := by decide +kernel
theorem dX10_crossingsBelow_22 : decode cX10_crossingsBelow 22 = .ok (.iload_n 3, 1) := by decide +kernel
theorem dX10_crossingsBelow_23 : decode cX10_crossingsBelow 23 = .ok (.iload_n 1, 1) := by decide +kernel
theorem dX10_crossingsBelow_24 : decode cX10_crossingsBelow 24 = .ok (.invokevirtual 166, 3) := by decide +kernel
theorem dX10_crossingsBelow_27 : decode cX10_crossingsBelow 27 = .ok (.ifCond .eq 100, 3) := by decide +kernel
theorem dX10_crossingsBelow_30 : decode cX10_crossingsBelow 30 = .ok (.aload_n 0, 1) := by decide +kernel
theorem dX10_crossingsBelow_31 : decode cX10_crossingsBelow 31 = .ok (.iload 4, 2) := by decide +kernel
theorem dX10_crossingsBelow_33 : decode cX10_crossingsBelow 33 = .ok (.iload_n 1, 1) := by decide +kernel
theorem dX10_crossingsBelow_34 : decode cX10_crossingsBelow 34 = .ok (.invokevirtual 166, 3) := by decide +kernel
theorem dX10_crossingsBelow_37 : decode cX10_crossingsBelow 37 = .ok (.ifCond .eq 84, 3) := by decide +kernel
theorem dX10_crossingsBelow_40 : decode cX10_crossingsBelow 40 = .ok (.aload_n 0, 1) := by decide +kernel
theorem dX10_crossingsBelow_41 : decode cX10_crossingsBelow 41 = .ok (.iload_n 3, 1) := by decide +kernel
theorem dX10_crossingsBelow_42 : decode cX10_crossingsBelow 42 = .ok (.invokevirtual 117, 3) := by decide +kernel
theorem dX10_crossingsBelow_45 : decode cX10_crossingsBelow 45 = .ok (.aload_n 0, 1) := by decide +kernel
theorem dX10_crossingsBelow_46 : decode cX10_crossingsBelow 46 = .ok (.iload 4, 2) := by decide +kernel
theorem dX10_crossingsBelow_48 : decode cX10_crossingsBelow 48 = .ok (.invokevirtual 117, 3) := by decide +kernel
theorem dX10_crossingsBelow_51 : decode cX10_crossingsBelow 51 = .ok (.if_icmp .ne 6, 3) := by decide +kernel
theorem dX10_crossingsBelow_54 : decode cX10_crossingsBelow 54 = .ok (.goto 67, 3) := by decide +kernel
theorem dX10_crossingsBelow_57 : decode cX10_crossingsBelow 57 = .ok (.aload_n 0, 1) := by decide +kernel
theorem dX10_crossingsBelow_58 : decode cX10_crossingsBelow 58 = .ok (.aload_n 0, 1) := by decide +kernel
theorem dX10_crossingsBelow_59 : decode cX10_crossingsBelow 59 = .ok (.iload_n 3, 1) := by decide +kernel
theorem dX10_crossingsBelow_60 : decode cX10_crossingsBelow 60 = .ok (.invokevirtual 117, 3) := by decide +kernel
theorem dX10_crossingsBelow_63 : decode cX10_crossingsBelow 63 = .ok (.invokevirtual 169, 3) := by decide +kernel
theorem dX10_crossingsBelow_66 : decode cX10_crossingsBelow 66 = .ok (.aload_n 0, 1) := by decide +kernel
theorem dX10_crossingsBelow_67 : decode cX10_crossingsBelow 67 = .ok (.aload_n 0, 1) := by decide +kernel
theorem dX10_crossingsBelow_68 : decode cX10_crossingsBelow 68 = .ok (.iload 4, 2) := by decide +kernel
theorem dX10_crossingsBelow_70 : decode cX10_crossingsBelow 70 = .ok (.invokevirtual 117, 3) := by decide +kernel
theorem dX10_crossingsBelow_73 : decode cX10_crossingsBelow 73 = .ok (.invokevirtual 169, 3) := by decide +kernel
theorem dX10_crossingsBelow_76 : decode cX10_crossingsBelow 76 = .ok (.isub, 1) := by decide +kernel
theorem dX10_crossingsBelow_77 : decode cX10_crossingsBelow 77 = .ok (.istore 5, 2) := by decide +kernel
theorem dX10_crossingsBelow_79 : decode cX10_crossingsBelow 79 = .ok (.aload_n 0, 1) := by decide +kernel
theorem dX10_crossingsBelow_80 : decode cX10_crossingsBelow 80 = .ok (.iload_n 3, 1) := by decide +kernel
theorem dX10_crossingsBelow_81 : decode cX10_crossingsBelow 81 = .ok (.invokevirtual 147, 3) := by decide +kernel
theorem dX10_crossingsBelow_84 : decode cX10_crossingsBelow 84 = .ok (.aload_n 0, 1) := by decide +kernel
theorem dX10_crossingsBelow_85 : decode cX10_crossingsBelow 85 = .ok (.iload 4, 2) := by decide +kernel
theorem dX10_crossingsBelow_87 : decode cX10_crossingsBelow 87 = .ok (.invokevirtual 147, 3) := by decide +kernel
theorem dX10_crossingsBelow_90 : decode cX10_crossingsBelow 90 = .ok (.isub, 1) := by decide +kernel
theorem dX10_crossingsBelow_91 : decode cX10_crossingsBelow 91 = .ok (.istore 6, 2) := by decide +kernel
theorem dX10_crossingsBelow_93 : decode cX10_crossingsBelow 93 = .ok (.iload_n 2, 1) := by decide +kernel
theorem dX10_crossingsBelow_94 : decode cX10_crossingsBelow 94 = .ok (.iload 5, 2) := by decide +kernel
theorem dX10_crossingsBelow_96 : decode cX10_crossingsBelow 96 = .ok (.ifCond .ge 8, 3) := by decide +kernel
theorem dX10_crossingsBelow_99 : decode cX10_crossingsBelow 99 = .ok (.iload 6, 2) := by decide +kernel
theorem dX10_crossingsBelow_101 : decode cX10_crossingsBelow 101 = .ok (.ifCond .gt 13, 3) := by decide +kernel
theorem dX10_crossingsBelow_104 : decode cX10_crossingsBelow 104 = .ok (.iload 5, 2) := by decide +kernel
theorem dX10_crossingsBelow_106 : decode cX10_crossingsBelow 106 = .ok (.ifCond .le 12, 3) := by decide +kernel
theorem dX10_crossingsBelow_109 : decode cX10_crossingsBelow 109 = .ok (.iload 6, 2) := by decide +kernel
theorem dX10_crossingsBelow_111 : decode cX10_crossingsBelow 111 = .ok (.ifCond .ge 7, 3) := by decide +kernel
theorem dX10_crossingsBelow_114 : decode cX10_crossingsBelow 114 = .ok (.iconst 1, 1) := by decide +kernel
theorem dX10_crossingsBelow_115 : decode cX10_crossingsBelow 115 = .ok (.goto 4, 3) := by decide +kernel
theorem dX10_crossingsBelow_118 : decode cX10_crossingsBelow 118 = .ok (.iconst 0, 1) := by decide +kernel
theorem dX10_crossingsBelow_119 : decode cX10_crossingsBelow 119 = .ok (.iadd, 1) := by decide +kernel
theorem dX10_crossingsBelow_120 : decode cX10_crossingsBelow 120 = .ok (.istore_n 2, 1) := by decide +kernel
theorem dX10_crossingsBelow_121 : decode cX10_crossingsBelow 121 = .ok (.iinc 4 1, 3) := by decide +kernel
theorem dX10_crossingsBelow_124 : decode cX10_crossingsBelow 124 = .ok (.goto (-109), 3) := by decide +kernel
theorem dX10_crossingsBelow_127 : decode cX10_crossingsBelow 127 = .ok (.iinc 3 1, 3) := by decide +kernel
theorem dX10_crossingsBelow_130 : decode cX10_crossingsBelow 130 = .ok (.goto (-126), 3) := by decide +kernel
theorem dX10_crossingsBelow_133 : decode cX10_crossingsBelow 133 = .ok (.iload_n 2, 1) := by decide +kernel
theorem dX10_crossingsBelow_134 : decode cX10_crossingsBelow 134 = .ok (.ireturn, 1) := by decide +kernel
theorem dX10_allCrossings_0 : decode cX10_allCrossings 0 = .ok (.iconst 0, 1) := by decide +kernel
theorem dX10_allCrossings_1 : decode cX10_allCrossings 1 = .ok (.istore_n 1, 1) := by decide +kernel
theorem dX10_allCrossings_2 : decode cX10_allCrossings 2 = .ok (.iconst 0, 1) := by decide +kernel
theorem dX10_allCrossings_3 : decode cX10_allCrossings 3 = .ok (.istore_n 2, 1) := by decide +kernel
theorem dX10_allCrossings_4 : decode cX10_allCrossings 4 = .ok (.iload_n 2, 1) := by decide +kernel
theorem dX10_allCrossings_5 : decode cX10_allCrossings 5 = .ok (.aload_n 0, 1) := by decide +kernel
theorem dX10_allCrossings_6 : decode cX10_allCrossings 6 = .ok (.getfield 132, 3) := by decide +kernel
theorem dX10_allCrossings_9 : decode cX10_allCrossings 9 = .ok (.if_icmp .ge 23, 3) := by decide +kernel
theorem dX10_allCrossings_12 : decode cX10_allCrossings 12 = .ok (.iload_n 1, 1) := by decide +kernel
theorem dX10_allCrossings_13 : decode cX10_allCrossings 13 = .ok (.aload_n 0, 1) := by decide +kernel
theorem dX10_allCrossings_14 : decode cX10_allCrossings 14 = .ok (.iload_n 2, 1) := by decide +kernel
theorem dX10_allCrossings_15 : decode cX10_allCrossings 15 = .ok (.invokevirtual 172, 3) := by decide +kernel
theorem dX10_allCrossings_18 : decode cX10_allCrossings 18 = .ok (.aload_n 0, 1) := by decide +kernel
theorem dX10_allCrossings_19 : decode cX10_allCrossings 19 = .ok (.iload_n 2, 1) := by decide +kernel
theorem dX10_allCrossings_20 : decode cX10_allCrossings 20 = .ok (.invokevirtual 175, 3) := by decide +kernel
theorem dX10_allCrossings_23 : decode cX10_allCrossings 23 = .ok (.iadd, 1) := by decide +kernel
theorem dX10_allCrossings_24 : decode cX10_allCrossings 24 = .ok (.iadd, 1) := by decide +kernel
theorem dX10_allCrossings_25 : decode cX10_allCrossings 25 = .ok (.istore_n 1, 1) := by decide +kernel
theorem dX10_allCrossings_26 : decode cX10_allCrossings 26 = .ok (.iinc 2 1, 3) := by decide +kernel
theorem dX10_allCrossings_29 : decode cX10_allCrossings 29 = .ok (.goto (-25), 3) := by decide +kernel
theorem dX10_allCrossings_32 : decode cX10_allCrossings 32 = .ok (.iload_n 1, 1) := by decide +kernel
theorem dX10_allCrossings_33 : decode cX10_allCrossings 33 = .ok (.ireturn, 1) := by decide +kernel
theorem dX10_widthOf_0 : decode cX10_widthOf 0 = .ok (.aload_n 0, 1) := by decide +kernel
theorem dX10_widthOf_1 : decode cX10_widthOf 1 = .ok (.aload_n 0, 1) := by decide +kernel
theorem dX10_widthOf_2 : decode cX10_widthOf 2 = .ok (.iload_n 1, 1) := by decide +kernel
theorem dX10_widthOf_3 : decode cX10_widthOf 3 = .ok (.invokevirtual 178, 3) := by decide +kernel
theorem dX10_widthOf_6 : decode cX10_widthOf 6 = .ok (.iconst 3, 1) := by decide +kernel
theorem dX10_widthOf_7 : decode cX10_widthOf 7 = .ok (.invokevirtual 98, 3) := by decide +kernel
theorem dX10_widthOf_10 : decode cX10_widthOf 10 = .ok (.l2i, 1) := by decide +kernel
theorem dX10_widthOf_11 : decode cX10_widthOf 11 = .ok (.iconst 2, 1) := by decide +kernel
theorem dX10_widthOf_12 : decode cX10_widthOf 12 = .ok (.iadd, 1) := by decide +kernel
theorem dX10_widthOf_13 : decode cX10_widthOf 13 = .ok (.ireturn, 1) := by decide +kernel
theorem dX10_middleColumn_0 : decode cX10_middleColumn 0 = .ok (.aload_n 0, 1) := by decide +kernel
theorem dX10_middleColumn_1 : decode cX10_middleColumn 1 = .ok (.getfield 45, 3) := by decide +kernel
theorem dX10_middleColumn_4 : decode cX10_middleColumn 4 = .ok (.iload_n 1, 1) := by decide +kernel
theorem dX10_middleColumn_5 : decode cX10_middleColumn 5 = .ok (.iaload, 1) := by decide +kernel
theorem dX10_middleColumn_6 : decode cX10_middleColumn 6 = .ok (.aload_n 0, 1) := by decide +kernel
theorem dX10_middleColumn_7 : decode cX10_middleColumn 7 = .ok (.iload_n 1, 1) := by decide +kernel
theorem dX10_middleColumn_8 : decode cX10_middleColumn 8 = .ok (.invokevirtual 181, 3) := by decide +kernel
theorem dX10_middleColumn_11 : decode cX10_middleColumn 11 = .ok (.iconst 2, 1) := by decide +kernel
theorem dX10_middleColumn_12 : decode cX10_middleColumn 12 = .ok (.idiv, 1) := by decide +kernel
theorem dX10_middleColumn_13 : decode cX10_middleColumn 13 = .ok (.iadd, 1) := by decide +kernel
theorem dX10_middleColumn_14 : decode cX10_middleColumn 14 = .ok (.ireturn, 1) := by decide +kernel
theorem dX10_unionColumn_0 : decode cX10_unionColumn 0 = .ok (.aload_n 0, 1) := by decide +kernel
theorem dX10_unionColumn_1 : decode cX10_unionColumn 1 = .ok (.aload_n 0, 1) := by decide +kernel
theorem dX10_unionColumn_2 : decode cX10_unionColumn 2 = .ok (.iload_n 1, 1) := by decide +kernel
theorem dX10_unionColumn_3 : decode cX10_unionColumn 3 = .ok (.iconst 0, 1) := by decide +kernel
theorem dX10_unionColumn_4 : decode cX10_unionColumn 4 = .ok (.invokevirtual 150, 3) := by decide +kernel
theorem dX10_unionColumn_7 : decode cX10_unionColumn 7 = .ok (.invokevirtual 184, 3) := by decide +kernel
theorem dX10_unionColumn_10 : decode cX10_unionColumn 10 = .ok (.aload_n 0, 1) := by decide +kernel
theorem dX10_unionColumn_11 : decode cX10_unionColumn 11 = .ok (.aload_n 0, 1) := by decide +kernel
theorem dX10_unionColumn_12 : decode cX10_unionColumn 12 = .ok (.iload_n 1, 1) := by decide +kernel
theorem dX10_unionColumn_13 : decode cX10_unionColumn 13 = .ok (.iconst 1, 1) := by decide +kernel
theorem dX10_unionColumn_14 : decode cX10_unionColumn 14 = .ok (.invokevirtual 150, 3) := by decide +kernel
theorem dX10_unionColumn_17 : decode cX10_unionColumn 17 = .ok (.invokevirtual 184, 3) := by decide +kernel
theorem dX10_unionColumn_20 : decode cX10_unionColumn 20 = .ok (.iadd, 1) := by decide +kernel
theorem dX10_unionColumn_21 : decode cX10_unionColumn 21 = .ok (.iconst 2, 1) := by decide +kernel
theorem dX10_unionColumn_22 : decode cX10_unionColumn 22 = .ok (.idiv, 1) := by decide +kernel
theorem dX10_unionColumn_23 : decode cX10_unionColumn 23 = .ok (.ireturn, 1) := by decide +kernel
theorem dX10_wanted_0 : decode cX10_wanted 0 = .ok (.iload_n 1, 1) := by decide +kernel
theorem dX10_wanted_1 : decode cX10_wanted 1 = .ok (.bipush 16, 2) := by decide +kernel
theorem dX10_wanted_3 : decode cX10_wanted 3 = .ok (.if_icmp .ge 11, 3) := by decide +kernel
theorem dX10_wanted_6 : decode cX10_wanted 6 = .ok (.aload_n 0, 1) := by decide +kernel
theorem dX10_wanted_7 : decode cX10_wanted 7 = .ok (.iload_n 1, 1) := by decide +kernel
theorem dX10_wanted_8 : decode cX10_wanted 8 = .ok (.invokevirtual 117, 3) := by decide +kernel
theorem dX10_wanted_11 : decode cX10_wanted 11 = .ok (.goto 4, 3) := by decide +kernel
theorem dX10_wanted_14 : decode cX10_wanted 14 = .ok (.iconst (-1), 1) := by decide +kernel
theorem dX10_wanted_15 : decode cX10_wanted 15 = .ok (.istore_n 2, 1) := by decide +kernel
theorem dX10_wanted_16 : decode cX10_wanted 16 = .ok (.iload_n 2, 1) := by decide +kernel
theorem dX10_wanted_17 : decode cX10_wanted 17 = .ok (.iconst (-1), 1) := by decide +kernel
theorem dX10_wanted_18 : decode cX10_wanted 18 = .ok (.if_icmp .ne 7, 3) := by decide +kernel
theorem dX10_wanted_21 : decode cX10_wanted 21 = .ok (.iconst 0, 1) := by decide +kernel
theorem dX10_wanted_22 : decode cX10_wanted 22 = .ok (.goto 16, 3) := by decide +kernel
theorem dX10_wanted_25 : decode cX10_wanted 25 = .ok (.aload_n 0, 1) := by decide +kernel
theorem dX10_wanted_26 : decode cX10_wanted 26 = .ok (.iload_n 2, 1) := by decide +kernel
theorem dX10_wanted_27 : decode cX10_wanted 27 = .ok (.invokevirtual 187, 3) := by decide +kernel
theorem dX10_wanted_30 : decode cX10_wanted 30 = .ok (.aload_n 0, 1) := by decide +kernel
theorem dX10_wanted_31 : decode cX10_wanted 31 = .ok (.iload_n 1, 1) := by decide +kernel
theorem dX10_wanted_32 : decode cX10_wanted 32 = .ok (.invokevirtual 181, 3) := by decide +kernel
theorem dX10_wanted_35 : decode cX10_wanted 35 = .ok (.iconst 2, 1) := by decide +kernel
theorem dX10_wanted_36 : decode cX10_wanted 36 = .ok (.idiv, 1) := by decide +kernel
theorem dX10_wanted_37 : decode cX10_wanted 37 = .ok (.isub, 1) := by decide +kernel
theorem dX10_wanted_38 : decode cX10_wanted 38 = .ok (.ireturn, 1) := by decide +kernel
theorem dX10_layColumns_0 : decode cX10_layColumns 0 = .ok (.aload_n 0, 1) := by decide +kernel
theorem dX10_layColumns_1 : decode cX10_layColumns 1 = .ok (.invokevirtual 190, 3) := by decide +kernel
theorem dX10_layColumns_4 : decode cX10_layColumns 4 = .ok (.iconst 0, 1) := by decide +kernel
theorem dX10_layColumns_5 : decode cX10_layColumns 5 = .ok (.istore_n 1, 1) := by decide +kernel
theorem dX10_layColumns_6 : decode cX10_layColumns 6 = .ok (.iload_n 1, 1) := by decide +kernel
theorem dX10_layColumns_7 : decode cX10_layColumns 7 = .ok (.aload_n 0, 1) := by decide +kernel
theorem dX10_layColumns_8 : decode cX10_layColumns 8 = .ok (.getfield 132, 3) := by decide +kernel
theorem dX10_layColumns_11 : decode cX10_layColumns 11 = .ok (.if_icmp .ge 71, 3) := by decide +kernel
theorem dX10_layColumns_14 : decode cX10_layColumns 14 = .ok (.iconst 0, 1) := by decide +kernel
theorem dX10_layColumns_15 : decode cX10_layColumns 15 = .ok (.istore_n 2, 1) := by decide +kernel
theorem dX10_layColumns_16 : decode cX10_layColumns 16 = .ok (.iconst 0, 1) := by decide +kernel
theorem dX10_layColumns_17 : decode cX10_layColumns 17 = .ok (.istore_n 3, 1) := by decide +kernel
theorem dX10_layColumns_18 : decode cX10_layColumns 18 = .ok (.iload_n 3, 1) := by decide +kernel
theorem dX10_layColumns_19 : decode cX10_layColumns 19 = .ok (.aload_n 0, 1) := by decide +kernel
theorem dX10_layColumns_20 : decode cX10_layColumns 20 = .ok (.getfield 32, 3) := by decide +kernel
theorem dX10_layColumns_23 : decode cX10_layColumns 23 = .ok (.iload_n 1, 1) := by decide +kernel
theorem dX10_layColumns_24 : decode cX10_layColumns 24 = .ok (.iaload, 1) := by decide +kernel
theorem dX10_layColumns_25 : decode cX10_layColumns 25 = .ok (.if_icmp .ge 51, 3) := by decide +kernel
theorem dX10_layColumns_28 : decode cX10_layColumns 28 = .ok (.aload_n 0, 1) := by decide +kernel
theorem dX10_layColumns_29 : decode cX10_layColumns 29 = .ok (.iload_n 1, 1) := by decide +kernel
theorem dX10_layColumns_30 : decode cX10_layColumns 30 = .ok (.iload_n 3, 1) := by decide +kernel
theorem dX10_layColumns_31 : decode cX10_layColumns 31 = .ok (.invokevirtual 153, 3) := by decide +kernel
theorem dX10_layColumns_34 : decode cX10_layColumns 34 = .ok (.istore 4, 2) := by decide +kernel
theorem dX10_layColumns_36 : decode cX10_layColumns 36 = .ok (.aload_n 0, 1) := by decide +kernel
theorem dX10_layColumns_37 : decode cX10_layColumns 37 = .ok (.getfield 45, 3) := by decide +kernel
theorem dX10_layColumns_40 : decode cX10_layColumns 40 = .ok (.iload 4, 2) := by decide +kernel
theorem dX10_layColumns_42 : decode cX10_layColumns 42 = .ok (.iload_n 2, 1) := by decide +kernel
theorem dX10_layColumns_43 : decode cX10_layColumns 43 = .ok (.aload_n 0, 1) := by decide +kernel
theorem dX10_layColumns_44 : decode cX10_layColumns 44 = .ok (.iload 4, 2) := by decide +kernel
theorem dX10_layColumns_46 : decode cX10_layColumns 46 = .ok (.invokevirtual 193, 3) := by decide +kernel
theorem dX10_layColumns_49 : decode cX10_layColumns 49 = .ok (.invokestatic 124, 3) := by decide +kernel
theorem dX10_layColumns_52 : decode cX10_layColumns 52 = .ok (.iastore, 1) := by decide +kernel
theorem dX10_layColumns_53 : decode cX10_layColumns 53 = .ok (.aload_n 0, 1) := by decide +kernel
theorem dX10_layColumns_54 : decode cX10_layColumns 54 = .ok (.getfield 45, 3) := by decide +kernel
theorem dX10_layColumns_57 : decode cX10_layColumns 57 = .ok (.iload 4, 2) := by decide +kernel
theorem dX10_layColumns_59 : decode cX10_layColumns 59 = .ok (.iaload, 1) := by decide +kernel
theorem dX10_layColumns_60 : decode cX10_layColumns 60 = .ok (.aload_n 0, 1) := by decide +kernel
theorem dX10_layColumns_61 : decode cX10_layColumns 61 = .ok (.iload 4, 2) := by decide +kernel
theorem dX10_layColumns_63 : decode cX10_layColumns 63 = .ok (.invokevirtual 181, 3) := by decide +kernel
theorem dX10_layColumns_66 : decode cX10_layColumns 66 = .ok (.iadd, 1) := by decide +kernel
theorem dX10_layColumns_67 : decode cX10_layColumns 67 = .ok (.iconst 1, 1) := by decide +kernel
theorem dX10_layColumns_68 : decode cX10_layColumns 68 = .ok (.iadd, 1) := by decide +kernel
theorem dX10_layColumns_69 : decode cX10_layColumns 69 = .ok (.istore_n 2, 1) := by decide +kernel
theorem dX10_layColumns_70 : decode cX10_layColumns 70 = .ok (.iinc 3 1, 3) := by decide +kernel
theorem dX10_layColumns_73 : decode cX10_layColumns 73 = .ok (.goto (-55), 3) := by decide +kernel
theorem dX10_layColumns_76 : decode cX10_layColumns 76 = .ok (.iinc 1 1, 3) := by decide +kernel
theorem dX10_layColumns_79 : decode cX10_layColumns 79 = .ok (.goto (-73), 3) := by decide +kernel
theorem dX10_layColumns_82 : decode cX10_layColumns 82 = .ok (.return_, 1) := by decide +kernel
theorem dX10_mark_0 : decode cX10_mark 0 = .ok (.aload_n 0, 1) := by decide +kernel
theorem dX10_mark_1 : decode cX10_mark 1 = .ok (.getfield 48, 3) := by decide +kernel
theorem dX10_mark_4 : decode cX10_mark 4 = .ok (.iload_n 1, 1) := by decide +kernel
theorem dX10_mark_5 : decode cX10_mark 5 = .ok (.iload_n 2, 1) := by decide +kernel
theorem dX10_mark_6 : decode cX10_mark 6 = .ok (.iastore, 1) := by decide +kernel
theorem dX10_mark_7 : decode cX10_mark 7 = .ok (.aload_n 0, 1) := by decide +kernel
theorem dX10_mark_8 : decode cX10_mark 8 = .ok (.aload_n 0, 1) := by decide +kernel
theorem dX10_mark_9 : decode cX10_mark 9 = .ok (.getfield 196, 3) := by decide +kernel
theorem dX10_mark_12 : decode cX10_mark 12 = .ok (.iload_n 1, 1) := by decide +kernel
theorem dX10_mark_13 : decode cX10_mark 13 = .ok (.iconst 1, 1) := by decide +kernel
theorem dX10_mark_14 : decode cX10_mark 14 = .ok (.iadd, 1) := by decide +kernel
theorem dX10_mark_15 : decode cX10_mark 15 = .ok (.invokestatic 124, 3) := by decide +kernel
theorem dX10_mark_18 : decode cX10_mark 18 = .ok (.putfield 196, 3) := by decide +kernel
theorem dX10_mark_21 : decode cX10_mark 21 = .ok (.return_, 1) := by decide +kernel
theorem dX10_printBox_0 : decode cX10_printBox 0 = .ok (.aload_n 0, 1) := by decide +kernel
theorem dX10_printBox_1 : decode cX10_printBox 1 = .ok (.iload_n 1, 1) := by decide +kernel
theorem dX10_printBox_2 : decode cX10_printBox 2 = .ok (.invokevirtual 178, 3) := by decide +kernel
theorem dX10_printBox_5 : decode cX10_printBox 5 = .ok (.istore_n 2, 1) := by decide +kernel
theorem dX10_printBox_6 : decode cX10_printBox 6 = .ok (.aload_n 0, 1) := by decide +kernel
theorem dX10_printBox_7 : decode cX10_printBox 7 = .ok (.iload_n 2, 1) := by decide +kernel
theorem dX10_printBox_8 : decode cX10_printBox 8 = .ok (.iconst 3, 1) := by decide +kernel
theorem dX10_printBox_9 : decode cX10_printBox 9 = .ok (.invokevirtual 98, 3) := by decide +kernel
theorem dX10_printBox_12 : decode cX10_printBox 12 = .ok (.l2i, 1) := by decide +kernel
theorem dX10_printBox_13 : decode cX10_printBox 13 = .ok (.istore_n 3, 1) := by decide +kernel
theorem dX10_printBox_14 : decode cX10_printBox 14 = .ok (.aload_n 0, 1) := by decide +kernel
theorem dX10_printBox_15 : decode cX10_printBox 15 = .ok (.getfield 45, 3) := by decide +kernel
theorem dX10_printBox_18 : decode cX10_printBox 18 = .ok (.iload_n 1, 1) := by decide +kernel
theorem dX10_printBox_19 : decode cX10_printBox 19 = .ok (.iaload, 1) := by decide +kernel
theorem dX10_printBox_20 : decode cX10_printBox 20 = .ok (.istore 4, 2) := by decide +kernel
theorem dX10_printBox_22 : decode cX10_printBox 22 = .ok (.aload_n 0, 1) := by decide +kernel
theorem dX10_printBox_23 : decode cX10_printBox 23 = .ok (.iload 4, 2) := by decide +kernel
theorem dX10_printBox_25 : decode cX10_printBox 25 = .ok (.iload_n 1, 1) := by decide +kernel
theorem dX10_printBox_26 : decode cX10_printBox 26 = .ok (.bipush 16, 2) := by decide +kernel
theorem dX10_printBox_28 : decode cX10_printBox 28 = .ok (.if_icmp .ge 8, 3) := by decide +kernel
theorem dX10_printBox_31 : decode cX10_printBox 31 = .ok (.bipush 91, 2) := by decide +kernel
theorem dX10_printBox_33 : decode cX10_printBox 33 = .ok (.goto 5, 3) := by decide +kernel
theorem dX10_printBox_36 : decode cX10_printBox 36 = .ok (.bipush 40, 2) := by decide +kernel
theorem dX10_printBox_38 : decode cX10_printBox 38 = .ok (.invokevirtual 199, 3) := by decide +kernel
theorem dX10_printBox_41 : decode cX10_printBox 41 = .ok (.aload_n 0, 1) := by decide +kernel
theorem dX10_printBox_42 : decode cX10_printBox 42 = .ok (.iload_n 2, 1) := by decide +kernel
theorem dX10_printBox_43 : decode cX10_printBox 43 = .ok (.iconst 2, 1) := by decide +kernel
theorem dX10_printBox_44 : decode cX10_printBox 44 = .ok (.invokevirtual 98, 3) := by decide +kernel
theorem dX10_printBox_47 : decode cX10_printBox 47 = .ok (.lstore 5, 2) := by decide +kernel
theorem dX10_printBox_49 : decode cX10_printBox 49 = .ok (.iload_n 3, 1) := by decide +kernel
theorem dX10_printBox_50 : decode cX10_printBox 50 = .ok (.istore 7, 2) := by decide +kernel
theorem dX10_printBox_52 : decode cX10_printBox 52 = .ok (.iload 7, 2) := by decide +kernel
theorem dX10_printBox_54 : decode cX10_printBox 54 = .ok (.ifCond .le 38, 3) := by decide +kernel
theorem dX10_printBox_57 : decode cX10_printBox 57 = .ok (.aload_n 0, 1) := by decide +kernel
theorem dX10_printBox_58 : decode cX10_printBox 58 = .ok (.iload 4, 2) := by decide +kernel
theorem dX10_printBox_60 : decode cX10_printBox 60 = .ok (.iload 7, 2) := by decide +kernel
theorem dX10_printBox_62 : decode cX10_printBox 62 = .ok (.iadd, 1) := by decide +kernel
theorem dX10_printBox_63 : decode cX10_printBox 63 = .ok (.bipush 97, 2) := by decide +kernel
theorem dX10_printBox_65 : decode cX10_printBox 65 = .ok (.lload 5, 2) := by decide +kernel
theorem dX10_printBox_67 : decode cX10_printBox 67 = .ok (.ldc2_w 203, 3) := by decide +kernel
theorem dX10_printBox_70 : decode cX10_printBox 70 = .ok (.lrem, 1) := by decide +kernel
theorem dX10_printBox_71 : decode cX10_printBox 71 = .ok (.l2i, 1) := by decide +kernel
theorem dX10_printBox_72 : decode cX10_printBox 72 = .ok (.iadd, 1) := by decide +kernel
theorem dX10_printBox_73 : decode cX10_printBox 73 = .ok (.iconst 1, 1) := by decide +kernel
theorem dX10_printBox_74 : decode cX10_printBox 74 = .ok (.isub, 1) := by decide +kernel
theorem dX10_printBox_75 : decode cX10_printBox 75 = .ok (.invokevirtual 199, 3) := by decide +kernel
theorem dX10_printBox_78 : decode cX10_printBox 78 = .ok (.lload 5, 2) := by decide +kernel
theorem dX10_printBox_80 : decode cX10_printBox 80 = .ok (.ldc2_w 203, 3) := by decide +kernel
theorem dX10_printBox_83 : decode cX10_printBox 83 = .ok (.ldiv, 1) := by decide +kernel
theorem dX10_printBox_84 : decode cX10_printBox 84 = .ok (.lstore 5, 2) := by decide +kernel
theorem dX10_printBox_86 : decode cX10_printBox 86 = .ok (.iinc 7 (-1), 3) := by decide +kernel
theorem dX10_printBox_89 : decode cX10_printBox 89 = .ok (.goto (-37), 3) := by decide +kernel
theorem dX10_printBox_92 : decode cX10_printBox 92 = .ok (.aload_n 0, 1) := by decide +kernel
theorem dX10_printBox_93 : decode cX10_printBox 93 = .ok (.iload 4, 2) := by decide +kernel
theorem dX10_printBox_95 : decode cX10_printBox 95 = .ok (.iload_n 3, 1) := by decide +kernel
theorem dX10_printBox_96 : decode cX10_printBox 96 = .ok (.iadd, 1) := by decide +kernel
theorem dX10_printBox_97 : decode cX10_printBox 97 = .ok (.iconst 1, 1) := by decide +kernel
theorem dX10_printBox_98 : decode cX10_printBox 98 = .ok (.iadd, 1) := by decide +kernel
theorem dX10_printBox_99 : decode cX10_printBox 99 = .ok (.iload_n 1, 1) := by decide +kernel
theorem dX10_printBox_100 : decode cX10_printBox 100 = .ok (.bipush 16, 2) := by decide +kernel
theorem dX10_printBox_102 : decode cX10_printBox 102 = .ok (.if_icmp .ge 8, 3) := by decide +kernel
theorem dX10_printBox_105 : decode cX10_printBox 105 = .ok (.bipush 93, 2) := by decide +kernel
theorem dX10_printBox_107 : decode cX10_printBox 107 = .ok (.goto 5, 3) := by decide +kernel
theorem dX10_printBox_110 : decode cX10_printBox 110 = .ok (.bipush 41, 2) := by decide +kernel
theorem dX10_printBox_112 : decode cX10_printBox 112 = .ok (.invokevirtual 199, 3) := by decide +kernel
theorem dX10_printBox_115 : decode cX10_printBox 115 = .ok (.return_, 1) := by decide +kernel
theorem dX10_printUnions_0 : decode cX10_printUnions 0 = .ok (.iconst 0, 1) := by decide +kernel
theorem dX10_printUnions_1 : decode cX10_printUnions 1 = .ok (.istore_n 2, 1) := by decide +kernel
theorem dX10_printUnions_2 : decode cX10_printUnions 2 = .ok (.iload_n 2, 1) := by decide +kernel
theorem dX10_printUnions_3 : decode cX10_printUnions 3 = .ok (.aload_n 0, 1) := by decide +kernel
theorem dX10_printUnions_4 : decode cX10_printUnions 4 = .ok (.invokevirtual 110, 3) := by decide +kernel
theorem dX10_printUnions_7 : decode cX10_printUnions 7 = .ok (.if_icmp .ge 54, 3) := by decide +kernel
theorem dX10_printUnions_10 : decode cX10_printUnions 10 = .ok (.aload_n 0, 1) := by decide +kernel
theorem dX10_printUnions_11 : decode cX10_printUnions 11 = .ok (.getfield 29, 3) := by decide +kernel
theorem dX10_printUnions_14 : decode cX10_printUnions 14 = .ok (.iload_n 2, 1) := by decide +kernel
theorem dX10_printUnions_15 : decode cX10_printUnions 15 = .ok (.iaload, 1) := by decide +kernel
theorem dX10_printUnions_16 : decode cX10_printUnions 16 = .ok (.iload_n 1, 1) := by decide +kernel
theorem dX10_printUnions_17 : decode cX10_printUnions 17 = .ok (.if_icmp .eq 6, 3) := by decide +kernel
theorem dX10_printUnions_20 : decode cX10_printUnions 20 = .ok (.goto 35, 3) := by decide +kernel
theorem dX10_printUnions_23 : decode cX10_printUnions 23 = .ok (.aload_n 0, 1) := by decide +kernel
theorem dX10_printUnions_24 : decode cX10_printUnions 24 = .ok (.iload_n 2, 1) := by decide +kernel
theorem dX10_printUnions_25 : decode cX10_printUnions 25 = .ok (.invokevirtual 187, 3) := by decide +kernel
theorem dX10_printUnions_28 : decode cX10_printUnions 28 = .ok (.istore_n 3, 1) := by decide +kernel
theorem dX10_printUnions_29 : decode cX10_printUnions 29 = .ok (.aload_n 0, 1) := by decide +kernel
theorem dX10_printUnions_30 : decode cX10_printUnions 30 = .ok (.getfield 48, 3) := by decide +kernel
theorem dX10_printUnions_33 : decode cX10_printUnions 33 = .ok (.iload_n 3, 1) := by decide +kernel
theorem dX10_printUnions_34 : decode cX10_printUnions 34 = .ok (.iaload, 1) := by decide +kernel
theorem dX10_printUnions_35 : decode cX10_printUnions 35 = .ok (.bipush 32, 2) := by decide +kernel
theorem dX10_printUnions_37 : decode cX10_printUnions 37 = .ok (.if_icmp .eq 9, 3) := by decide +kernel
theorem dX10_printUnions_40 : decode cX10_printUnions 40 = .ok (.iinc 3 1, 3) := by decide +kernel
theorem dX10_printUnions_43 : decode cX10_printUnions 43 = .ok (.goto (-14), 3) := by decide +kernel
theorem dX10_printUnions_46 : decode cX10_printUnions 46 = .ok (.aload_n 0, 1) := by decide +kernel
theorem dX10_printUnions_47 : decode cX10_printUnions 47 = .ok (.iload_n 3, 1) := by decide +kernel
theorem dX10_printUnions_48 : decode cX10_printUnions 48 = .ok (.bipush 97, 2) := by decide +kernel
theorem dX10_printUnions_50 : decode cX10_printUnions 50 = .ok (.iload_n 2, 1) := by decide +kernel
theorem dX10_printUnions_51 : decode cX10_printUnions 51 = .ok (.iadd, 1) := by decide +kernel
theorem dX10_printUnions_52 : decode cX10_printUnions 52 = .ok (.invokevirtual 199, 3) := by decide +kernel
theorem dX10_printUnions_55 : decode cX10_printUnions 55 = .ok (.iinc 2 1, 3) := by decide +kernel
theorem dX10_printUnions_58 : decode cX10_printUnions 58 = .ok (.goto (-56), 3) := by decide +kernel
theorem dX10_printUnions_61 : decode cX10_printUnions 61 = .ok (.return_, 1) := by decide +kernel
theorem dX10_printChildren_0 : decode cX10_printChildren 0 = .ok (.iconst 0, 1) := by decide +kernel
theorem dX10_printChildren_1 : decode cX10_printChildren 1 = .ok (.istore_n 2, 1) := by decide +kernel
theorem dX10_printChildren_2 : decode cX10_printChildren 2 = .ok (.iload_n 2, 1) := by decide +kernel
theorem dX10_printChildren_3 : decode cX10_printChildren 3 = .ok (.aload_n 0, 1) := by decide +kernel
theorem dX10_printChildren_4 : decode cX10_printChildren 4 = .ok (.invokevirtual 121, 3) := by decide +kernel
theorem dX10_printChildren_7 : decode cX10_printChildren 7 = .ok (.if_icmp .ge 48, 3) := by decide +kernel
theorem dX10_printChildren_10 : decode cX10_printChildren 10 = .ok (.aload_n 0, 1) := by decide +kernel
theorem dX10_printChildren_11 : decode cX10_printChildren 11 = .ok (.iload_n 2, 1) := by decide +kernel
theorem dX10_printChildren_12 : decode cX10_printChildren 12 = .ok (.invokevirtual 184, 3) := by decide +kernel
theorem dX10_printChildren_15 : decode cX10_printChildren 15 = .ok (.istore_n 3, 1) := by decide +kernel
theorem dX10_printChildren_16 : decode cX10_printChildren 16 = .ok (.aload_n 0, 1) := by decide +kernel
theorem dX10_printChildren_17 : decode cX10_printChildren 17 = .ok (.iload_n 2, 1) := by decide +kernel
theorem dX10_printChildren_18 : decode cX10_printChildren 18 = .ok (.iload_n 1, 1) := by decide +kernel
theorem dX10_printChildren_19 : decode cX10_printChildren 19 = .ok (.invokevirtual 166, 3) := by decide +kernel
theorem dX10_printChildren_22 : decode cX10_printChildren 22 = .ok (.ifCond .eq 27, 3) := by decide +kernel
theorem dX10_printChildren_25 : decode cX10_printChildren 25 = .ok (.aload_n 0, 1) := by decide +kernel
theorem dX10_printChildren_26 : decode cX10_printChildren 26 = .ok (.getfield 48, 3) := by decide +kernel
theorem dX10_printChildren_29 : decode cX10_printChildren 29 = .ok (.iload_n 3, 1) := by decide +kernel
theorem dX10_printChildren_30 : decode cX10_printChildren 30 = .ok (.iaload, 1) := by decide +kernel
theorem dX10_printChildren_31 : decode cX10_printChildren 31 = .ok (.bipush 32, 2) := by decide +kernel
theorem dX10_printChildren_33 : decode cX10_printChildren 33 = .ok (.if_icmp .ne 16, 3) := by decide +kernel
theorem dX10_printChildren_36 : decode cX10_printChildren 36 = .ok (.aload_n 0, 1) := by decide +kernel
theorem dX10_printChildren_37 : decode cX10_printChildren 37 = .ok (.iload_n 3, 1) := by decide +kernel
theorem dX10_printChildren_38 : decode cX10_printChildren 38 = .ok (.bipush 97, 2) := by decide +kernel
theorem dX10_printChildren_40 : decode cX10_printChildren 40 = .ok (.aload_n 0, 1) := by decide +kernel
theorem dX10_printChildren_41 : decode cX10_printChildren 41 = .ok (.iload_n 2, 1) := by decide +kernel
theorem dX10_printChildren_42 : decode cX10_printChildren 42 = .ok (.invokevirtual 117, 3) := by decide +kernel
theorem dX10_printChildren_45 : decode cX10_printChildren 45 = .ok (.iadd, 1) := by decide +kernel
theorem dX10_printChildren_46 : decode cX10_printChildren 46 = .ok (.invokevirtual 199, 3) := by decide +kernel
theorem dX10_printChildren_49 : decode cX10_printChildren 49 = .ok (.iinc 2 1, 3) := by decide +kernel
theorem dX10_printChildren_52 : decode cX10_printChildren 52 = .ok (.goto (-50), 3) := by decide +kernel
theorem dX10_printChildren_55 : decode cX10_printChildren 55 = .ok (.return_, 1) := by decide +kernel
theorem dX10_layLine_0 : decode cX10_layLine 0 = .ok (.iconst 0, 1) := by decide +kernel
theorem dX10_layLine_1 : decode cX10_layLine 1 = .ok (.istore_n 2, 1) := by decide +kernel
theorem dX10_layLine_2 : decode cX10_layLine 2 = .ok (.iload_n 2, 1) := by decide +kernel
theorem dX10_layLine_3 : decode cX10_layLine 3 = .ok (.sipush 800, 3) := by decide +kernel
theorem dX10_layLine_6 : decode cX10_layLine 6 = .ok (.if_icmp .ge 17, 3) := by decide +kernel
theorem dX10_layLine_9 : decode cX10_layLine 9 = .ok (.aload_n 0, 1) := by decide +kernel
theorem dX10_layLine_10 : decode cX10_layLine 10 = .ok (.getfield 48, 3) := by decide +kernel
theorem dX10_layLine_13 : decode cX10_layLine 13 = .ok (.iload_n 2, 1) := by decide +kernel
theorem dX10_layLine_14 : decode cX10_layLine 14 = .ok (.bipush 32, 2) := by decide +kernel
theorem dX10_layLine_16 : decode cX10_layLine 16 = .ok (.iastore, 1) := by decide +kernel
theorem dX10_layLine_17 : decode cX10_layLine 17 = .ok (.iinc 2 1, 3) := by decide +kernel
theorem dX10_layLine_20 : decode cX10_layLine 20 = .ok (.goto (-18), 3) := by decide +kernel
theorem dX10_layLine_23 : decode cX10_layLine 23 = .ok (.aload_n 0, 1) := by decide +kernel
theorem dX10_layLine_24 : decode cX10_layLine 24 = .ok (.iconst 0, 1) := by decide +kernel
theorem dX10_layLine_25 : decode cX10_layLine 25 = .ok (.putfield 196, 3) := by decide +kernel
theorem dX10_layLine_28 : decode cX10_layLine 28 = .ok (.iload_n 1, 1) := by decide +kernel
theorem dX10_layLine_29 : decode cX10_layLine 29 = .ok (.iconst 3, 1) := by decide +kernel
theorem dX10_layLine_30 : decode cX10_layLine 30 = .ok (.idiv, 1) := by decide +kernel
theorem dX10_layLine_31 : decode cX10_layLine 31 = .ok (.istore_n 2, 1) := by decide +kernel
theorem dX10_layLine_32 : decode cX10_layLine 32 = .ok (.iload_n 1, 1) := by decide +kernel
theorem dX10_layLine_33 : decode cX10_layLine 33 = .ok (.iconst 3, 1) := by decide +kernel
theorem dX10_layLine_34 : decode cX10_layLine 34 = .ok (.irem, 1) := by decide +kernel
theorem dX10_layLine_35 : decode cX10_layLine 35 = .ok (.iconst 1, 1) := by decide +kernel
theorem dX10_layLine_36 : decode cX10_layLine 36 = .ok (.if_icmp .ne 11, 3) := by decide +kernel
theorem dX10_layLine_39 : decode cX10_layLine 39 = .ok (.aload_n 0, 1) := by decide +kernel
theorem dX10_layLine_40 : decode cX10_layLine 40 = .ok (.iload_n 2, 1) := by decide +kernel
theorem dX10_layLine_41 : decode cX10_layLine 41 = .ok (.invokevirtual 205, 3) := by decide +kernel
theorem dX10_layLine_44 : decode cX10_layLine 44 = .ok (.goto 46, 3) := by decide +kernel
theorem dX10_layLine_47 : decode cX10_layLine 47 = .ok (.iload_n 1, 1) := by decide +kernel
theorem dX10_layLine_48 : decode cX10_layLine 48 = .ok (.iconst 3, 1) := by decide +kernel
theorem dX10_layLine_49 : decode cX10_layLine 49 = .ok (.irem, 1) := by decide +kernel
theorem dX10_layLine_50 : decode cX10_layLine 50 = .ok (.iconst 2, 1) := by decide +kernel
theorem dX10_layLine_51 : decode cX10_layLine 51 = .ok (.if_icmp .ne 11, 3) := by decide +kernel
theorem dX10_layLine_54 : decode cX10_layLine 54 = .ok (.aload_n 0, 1) := by decide +kernel
theorem dX10_layLine_55 : decode cX10_layLine 55 = .ok (.iload_n 2, 1) := by decide +kernel
theorem dX10_layLine_56 : decode cX10_layLine 56 = .ok (.invokevirtual 209, 3) := by decide +kernel
theorem dX10_layLine_59 : decode cX10_layLine 59 = .ok (.goto 31, 3) := by decide +kernel
theorem dX10_layLine_62 : decode cX10_layLine 62 = .ok (.iconst 0, 1) := by decide +kernel
theorem dX10_layLine_63 : decode cX10_layLine 63 = .ok (.istore_n 3, 1) := by decide +kernel
theorem dX10_layLine_64 : decode cX10_layLine 64 = .ok (.iload_n 3, 1) := by decide +kernel
theorem dX10_layLine_65 : decode cX10_layLine 65 = .ok (.aload_n 0, 1) := by decide +kernel
theorem dX10_layLine_66 : decode cX10_layLine 66 = .ok (.getfield 32, 3) := by decide +kernel
theorem dX10_layLine_69 : decode cX10_layLine 69 = .ok (.iload_n 2, 1) := by decide +kernel
theorem dX10_layLine_70 : decode cX10_layLine 70 = .ok (.iaload, 1) := by decide +kernel
theorem dX10_layLine_71 : decode cX10_layLine 71 = .ok (.if_icmp .ge 19, 3) := by decide +kernel
theorem dX10_layLine_74 : decode cX10_layLine 74 = .ok (.aload_n 0, 1) := by decide +kernel
theorem dX10_layLine_75 : decode cX10_layLine 75 = .ok (.aload_n 0, 1) := by decide +kernel
theorem dX10_layLine_76 : decode cX10_layLine 76 = .ok (.iload_n 2, 1) := by decide +kernel
theorem dX10_layLine_77 : decode cX10_layLine 77 = .ok (.iload_n 3, 1) := by decide +kernel
theorem dX10_layLine_78 : decode cX10_layLine 78 = .ok (.invokevirtual 153, 3) := by decide +kernel
theorem dX10_layLine_81 : decode cX10_layLine 81 = .ok (.invokevirtual 212, 3) := by decide +kernel
theorem dX10_layLine_84 : decode cX10_layLine 84 = .ok (.iinc 3 1, 3) := by decide +kernel
theorem dX10_layLine_87 : decode cX10_layLine 87 = .ok (.goto (-23), 3) := by decide +kernel
theorem dX10_layLine_90 : decode cX10_layLine 90 = .ok (.return_, 1) := by decide +kernel
theorem dX10_chartWidth_0 : decode cX10_chartWidth 0 = .ok (.aload_n 0, 1) := by decide +kernel
theorem dX10_chartWidth_1 : decode cX10_chartWidth 1 = .ok (.invokevirtual 215, 3) := by decide +kernel
theorem dX10_chartWidth_4 : decode cX10_chartWidth 4 = .ok (.iconst 0, 1) := by decide +kernel
theorem dX10_chartWidth_5 : decode cX10_chartWidth 5 = .ok (.istore_n 1, 1) := by decide +kernel
theorem dX10_chartWidth_6 : decode cX10_chartWidth 6 = .ok (.iconst 0, 1) := by decide +kernel
theorem dX10_chartWidth_7 : decode cX10_chartWidth 7 = .ok (.istore_n 2, 1) := by decide +kernel
theorem dX10_chartWidth_8 : decode cX10_chartWidth 8 = .ok (.iload_n 2, 1) := by decide +kernel
theorem dX10_chartWidth_9 : decode cX10_chartWidth 9 = .ok (.iconst 3, 1) := by decide +kernel
theorem dX10_chartWidth_10 : decode cX10_chartWidth 10 = .ok (.aload_n 0, 1) := by decide +kernel
theorem dX10_chartWidth_11 : decode cX10_chartWidth 11 = .ok (.getfield 132, 3) := by decide +kernel
theorem dX10_chartWidth_14 : decode cX10_chartWidth 14 = .ok (.imul, 1) := by decide +kernel
theorem dX10_chartWidth_15 : decode cX10_chartWidth 15 = .ok (.if_icmp .ge 23, 3) := by decide +kernel
theorem dX10_chartWidth_18 : decode cX10_chartWidth 18 = .ok (.aload_n 0, 1) := by decide +kernel
theorem dX10_chartWidth_19 : decode cX10_chartWidth 19 = .ok (.iload_n 2, 1) := by decide +kernel
theorem dX10_chartWidth_20 : decode cX10_chartWidth 20 = .ok (.invokevirtual 218, 3) := by decide +kernel
theorem dX10_chartWidth_23 : decode cX10_chartWidth 23 = .ok (.iload_n 1, 1) := by decide +kernel
theorem dX10_chartWidth_24 : decode cX10_chartWidth 24 = .ok (.aload_n 0, 1) := by decide +kernel
theorem dX10_chartWidth_25 : decode cX10_chartWidth 25 = .ok (.getfield 196, 3) := by decide +kernel
theorem dX10_chartWidth_28 : decode cX10_chartWidth 28 = .ok (.invokestatic 124, 3) := by decide +kernel
theorem dX10_chartWidth_31 : decode cX10_chartWidth 31 = .ok (.istore_n 1, 1) := by decide +kernel
theorem dX10_chartWidth_32 : decode cX10_chartWidth 32 = .ok (.iinc 2 1, 3) := by decide +kernel
theorem dX10_chartWidth_35 : decode cX10_chartWidth 35 = .ok (.goto (-27), 3) := by decide +kernel
theorem dX10_chartWidth_38 : decode cX10_chartWidth 38 = .ok (.iload_n 1, 1) := by decide +kernel
theorem dX10_chartWidth_39 : decode cX10_chartWidth 39 = .ok (.ireturn, 1) := by decide +kernel
theorem dX10_boxCount_0 : decode cX10_boxCount 0 = .ok (.iconst 0, 1) := by decide +kernel
theorem dX10_boxCount_1 : decode cX10_boxCount 1 = .ok (.istore_n 2, 1) := by decide +kernel
theorem dX10_boxCount_2 : decode cX10_boxCount 2 = .ok (.iload_n 1, 1) := by decide +kernel
theorem dX10_boxCount_3 : decode cX10_boxCount 3 = .ok (.istore_n 3, 1) := by decide +kernel
theorem dX10_boxCount_4 : decode cX10_boxCount 4 = .ok (.iload_n 3, 1) := by decide +kernel
theorem dX10_boxCount_5 : decode cX10_boxCount 5 = .ok (.bipush 28, 2) := by decide +kernel
theorem dX10_boxCount_7 : decode cX10_boxCount 7 = .ok (.if_icmp .ge 26, 3) := by decide +kernel
theorem dX10_boxCount_10 : decode cX10_boxCount 10 = .ok (.iload_n 2, 1) := by decide +kernel
theorem dX10_boxCount_11 : decode cX10_boxCount 11 = .ok (.aload_n 0, 1) := by decide +kernel
theorem dX10_boxCount_12 : decode cX10_boxCount 12 = .ok (.getfield 38, 3) := by decide +kernel
theorem dX10_boxCount_15 : decode cX10_boxCount 15 = .ok (.iload_n 3, 1) := by decide +kernel
theorem dX10_boxCount_16 : decode cX10_boxCount 16 = .ok (.baload, 1) := by decide +kernel
theorem dX10_boxCount_17 : decode cX10_boxCount 17 = .ok (.ifCond .eq 7, 3) := by decide +kernel
theorem dX10_boxCount_20 : decode cX10_boxCount 20 = .ok (.iconst 1, 1) := by decide +kernel
theorem dX10_boxCount_21 : decode cX10_boxCount 21 = .ok (.goto 4, 3) := by decide +kernel
theorem dX10_boxCount_24 : decode cX10_boxCount 24 = .ok (.iconst 0, 1) := by decide +kernel
theorem dX10_boxCount_25 : decode cX10_boxCount 25 = .ok (.iadd, 1) := by decide +kernel
theorem dX10_boxCount_26 : decode cX10_boxCount 26 = .ok (.istore_n 2, 1) := by decide +kernel
theorem dX10_boxCount_27 : decode cX10_boxCount 27 = .ok (.iinc 3 1, 3) := by decide +kernel
theorem dX10_boxCount_30 : decode cX10_boxCount 30 = .ok (.goto (-26), 3) := by decide +kernel
theorem dX10_boxCount_33 : decode cX10_boxCount 33 = .ok (.iload_n 2, 1) := by decide +kernel
theorem dX10_boxCount_34 : decode cX10_boxCount 34 = .ok (.ireturn, 1) := by decide +kernel
theorem dX10_childrenOf_0 : decode cX10_childrenOf 0 = .ok (.iconst 0, 1) := by decide +kernel
theorem dX10_childrenOf_1 : decode cX10_childrenOf 1 = .ok (.istore_n 2, 1) := by decide +kernel
theorem dX10_childrenOf_2 : decode cX10_childrenOf 2 = .ok (.iconst 0, 1) := by decide +kernel
theorem dX10_childrenOf_3 : decode cX10_childrenOf 3 = .ok (.istore_n 3, 1) := by decide +kernel
theorem dX10_childrenOf_4 : decode cX10_childrenOf 4 = .ok (.iload_n 3, 1) := by decide +kernel
theorem dX10_childrenOf_5 : decode cX10_childrenOf 5 = .ok (.aload_n 0, 1) := by decide +kernel
theorem dX10_childrenOf_6 : decode cX10_childrenOf 6 = .ok (.invokevirtual 110, 3) := by decide +kernel
theorem dX10_childrenOf_9 : decode cX10_childrenOf 9 = .ok (.if_icmp .ge 30, 3) := by decide +kernel
theorem dX10_childrenOf_12 : decode cX10_childrenOf 12 = .ok (.iload_n 2, 1) := by decide +kernel
theorem dX10_childrenOf_13 : decode cX10_childrenOf 13 = .ok (.aload_n 0, 1) := by decide +kernel
theorem dX10_childrenOf_14 : decode cX10_childrenOf 14 = .ok (.iload_n 3, 1) := by decide +kernel
theorem dX10_childrenOf_15 : decode cX10_childrenOf 15 = .ok (.iload_n 1, 1) := by decide +kernel
theorem dX10_childrenOf_16 : decode cX10_childrenOf 16 = .ok (.invokevirtual 113, 3) := by decide +kernel
theorem dX10_childrenOf_19 : decode cX10_childrenOf 19 = .ok (.ifCond .eq 11, 3) := by decide +kernel
theorem dX10_childrenOf_22 : decode cX10_childrenOf 22 = .ok (.aload_n 0, 1) := by decide +kernel
theorem dX10_childrenOf_23 : decode cX10_childrenOf 23 = .ok (.iload_n 3, 1) := by decide +kernel
theorem dX10_childrenOf_24 : decode cX10_childrenOf 24 = .ok (.invokevirtual 221, 3) := by decide +kernel
theorem dX10_childrenOf_27 : decode cX10_childrenOf 27 = .ok (.goto 4, 3) := by decide +kernel
theorem dX10_childrenOf_30 : decode cX10_childrenOf 30 = .ok (.iconst 0, 1) := by decide +kernel
theorem dX10_childrenOf_31 : decode cX10_childrenOf 31 = .ok (.ior, 1) := by decide +kernel
theorem dX10_childrenOf_32 : decode cX10_childrenOf 32 = .ok (.istore_n 2, 1) := by decide +kernel
theorem dX10_childrenOf_33 : decode cX10_childrenOf 33 = .ok (.iinc 3 1, 3) := by decide +kernel
theorem dX10_childrenOf_36 : decode cX10_childrenOf 36 = .ok (.goto (-32), 3) := by decide +kernel
theorem dX10_childrenOf_39 : decode cX10_childrenOf 39 = .ok (.iload_n 2, 1) := by decide +kernel
theorem dX10_childrenOf_40 : decode cX10_childrenOf 40 = .ok (.ireturn, 1) := by decide +kernel
theorem dX10_personsWithout_0 : decode cX10_personsWithout 0 = .ok (.iconst 0, 1) := by decide +kernel
theorem dX10_personsWithout_1 : decode cX10_personsWithout 1 = .ok (.istore_n 2, 1) := by decide +kernel
theorem dX10_personsWithout_2 : decode cX10_personsWithout 2 = .ok (.iconst 0, 1) := by decide +kernel
theorem dX10_personsWithout_3 : decode cX10_personsWithout 3 = .ok (.istore_n 3, 1) := by decide +kernel
theorem dX10_personsWithout_4 : decode cX10_personsWithout 4 = .ok (.iload_n 3, 1) := by decide +kernel
theorem dX10_personsWithout_5 : decode cX10_personsWithout 5 = .ok (.aload_n 0, 1) := by decide +kernel
theorem dX10_personsWithout_6 : decode cX10_personsWithout 6 = .ok (.invokevirtual 121, 3) := by decide +kernel
theorem dX10_personsWithout_9 : decode cX10_personsWithout 9 = .ok (.if_icmp .ge 58, 3) := by decide +kernel
theorem dX10_personsWithout_12 : decode cX10_personsWithout 12 = .ok (.iload_n 1, 1) := by decide +kernel
theorem dX10_personsWithout_13 : decode cX10_personsWithout 13 = .ok (.ifCond .eq 20, 3) := by decide +kernel
theorem dX10_personsWithout_16 : decode cX10_personsWithout 16 = .ok (.aload_n 0, 1) := by decide +kernel
theorem dX10_personsWithout_17 : decode cX10_personsWithout 17 = .ok (.iload_n 3, 1) := by decide +kernel
theorem dX10_personsWithout_18 : decode cX10_personsWithout 18 = .ok (.invokevirtual 117, 3) := by decide +kernel
theorem dX10_personsWithout_21 : decode cX10_personsWithout 21 = .ok (.iconst (-1), 1) := by decide +kernel
theorem dX10_personsWithout_22 : decode cX10_personsWithout 22 = .ok (.if_icmp .ne 7, 3) := by decide +kernel
theorem dX10_personsWithout_25 : decode cX10_personsWithout 25 = .ok (.iconst 1, 1) := by decide +kernel
theorem dX10_personsWithout_26 : decode cX10_personsWithout 26 = .ok (.goto 20, 3) := by decide +kernel
theorem dX10_personsWithout_29 : decode cX10_personsWithout 29 = .ok (.iconst 0, 1) := by decide +kernel
theorem dX10_personsWithout_30 : decode cX10_personsWithout 30 = .ok (.goto 16, 3) := by decide +kernel
theorem dX10_personsWithout_33 : decode cX10_personsWithout 33 = .ok (.aload_n 0, 1) := by decide +kernel
theorem dX10_personsWithout_34 : decode cX10_personsWithout 34 = .ok (.iload_n 3, 1) := by decide +kernel
theorem dX10_personsWithout_35 : decode cX10_personsWithout 35 = .ok (.invokevirtual 224, 3) := by decide +kernel
theorem dX10_personsWithout_38 : decode cX10_personsWithout 38 = .ok (.ifCond .ne 7, 3) := by decide +kernel
theorem dX10_personsWithout_41 : decode cX10_personsWithout 41 = .ok (.iconst 1, 1) := by decide +kernel
theorem dX10_personsWithout_42 : decode cX10_personsWithout 42 = .ok (.goto 4, 3) := by decide +kernel
theorem dX10_personsWithout_45 : decode cX10_personsWithout 45 = .ok (.iconst 0, 1) := by decide +kernel
theorem dX10_personsWithout_46 : decode cX10_personsWithout 46 = .ok (.istore 4, 2) := by decide +kernel
theorem dX10_personsWithout_48 : decode cX10_personsWithout 48 = .ok (.iload_n 2, 1) := by decide +kernel
theorem dX10_personsWithout_49 : decode cX10_personsWithout 49 = .ok (.iload 4, 2) := by decide +kernel
theorem dX10_personsWithout_51 : decode cX10_personsWithout 51 = .ok (.ifCond .eq 7, 3) := by decide +kernel
theorem dX10_personsWithout_54 : decode cX10_personsWithout 54 = .ok (.iconst 1, 1) := by decide +kernel
theorem dX10_personsWithout_55 : decode cX10_personsWithout 55 = .ok (.goto 4, 3) := by decide +kernel
theorem dX10_personsWithout_58 : decode cX10_personsWithout 58 = .ok (.iconst 0, 1) := by decide +kernel
theorem dX10_personsWithout_59 : decode cX10_personsWithout 59 = .ok (.iadd, 1) := by decide +kernel
theorem dX10_personsWithout_60 : decode cX10_personsWithout 60 = .ok (.istore_n 2, 1) := by decide +kernel
theorem dX10_personsWithout_61 : decode cX10_personsWithout 61 = .ok (.iinc 3 1, 3) := by decide +kernel
theorem dX10_personsWithout_64 : decode cX10_personsWithout 64 = .ok (.goto (-60), 3) := by decide +kernel
theorem dX10_personsWithout_67 : decode cX10_personsWithout 67 = .ok (.iload_n 2, 1) := by decide +kernel
theorem dX10_personsWithout_68 : decode cX10_personsWithout 68 = .ok (.ireturn, 1) := by decide +kernel
theorem dX10_count_0 : decode cX10_count 0 = .ok (.aload_n 0, 1) := by decide +kernel
theorem dX10_count_1 : decode cX10_count 1 = .ok (.iconst 0, 1) := by decide +kernel
theorem dX10_count_2 : decode cX10_count 2 = .ok (.putfield 95, 3) := by decide +kernel
theorem dX10_count_5 : decode cX10_count 5 = .ok (.aload_n 0, 1) := by decide +kernel
theorem dX10_count_6 : decode cX10_count 6 = .ok (.invokevirtual 190, 3) := by decide +kernel
theorem dX10_count_9 : decode cX10_count 9 = .ok (.iload_n 1, 1) := by decide +kernel
theorem dX10_count_10 : decode cX10_count 10 = .ok (.tableswitch 82 0 6 #[42, 47, 52, 57, 63, 70, 76], 42) := by decide +kernel
theorem dX10_count_52 : decode cX10_count 52 = .ok (.aload_n 0, 1) := by decide +kernel
theorem dX10_count_53 : decode cX10_count 53 = .ok (.invokevirtual 121, 3) := by decide +kernel
theorem dX10_count_56 : decode cX10_count 56 = .ok (.ireturn, 1) := by decide +kernel
theorem dX10_count_57 : decode cX10_count 57 = .ok (.aload_n 0, 1) := by decide +kernel
theorem dX10_count_58 : decode cX10_count 58 = .ok (.invokevirtual 110, 3) := by decide +kernel
theorem dX10_count_61 : decode cX10_count 61 = .ok (.ireturn, 1) := by decide +kernel
theorem dX10_count_62 : decode cX10_count 62 = .ok (.aload_n 0, 1) := by decide +kernel
theorem dX10_count_63 : decode cX10_count 63 = .ok (.getfield 132, 3) := by decide +kernel
theorem dX10_count_66 : decode cX10_count 66 = .ok (.ireturn, 1) := by decide +kernel
theorem dX10_count_67 : decode cX10_count 67 = .ok (.aload_n 0, 1) := by decide +kernel
theorem dX10_count_68 : decode cX10_count 68 = .ok (.iconst 0, 1) := by decide +kernel
theorem dX10_count_69 : decode cX10_count 69 = .ok (.invokevirtual 227, 3) := by decide +kernel
theorem dX10_count_72 : decode cX10_count 72 = .ok (.ireturn, 1) := by decide +kernel
theorem dX10_count_73 : decode cX10_count 73 = .ok (.aload_n 0, 1) := by decide +kernel
theorem dX10_count_74 : decode cX10_count 74 = .ok (.bipush 16, 2) := by decide +kernel
theorem dX10_count_76 : decode cX10_count 76 = .ok (.invokevirtual 227, 3) := by decide +kernel
theorem dX10_count_79 : decode cX10_count 79 = .ok (.ireturn, 1) := by decide +kernel
theorem dX10_count_80 : decode cX10_count 80 = .ok (.aload_n 0, 1) := by decide +kernel
theorem dX10_count_81 : decode cX10_count 81 = .ok (.iconst 1, 1) := by decide +kernel
theorem dX10_count_82 : decode cX10_count 82 = .ok (.invokevirtual 230, 3) := by decide +kernel
theorem dX10_count_85 : decode cX10_count 85 = .ok (.ireturn, 1) := by decide +kernel
theorem dX10_count_86 : decode cX10_count 86 = .ok (.aload_n 0, 1) := by decide +kernel
theorem dX10_count_87 : decode cX10_count 87 = .ok (.iconst 0, 1) := by decide +kernel
theorem dX10_count_88 : decode cX10_count 88 = .ok (.invokevirtual 230, 3) := by decide +kernel
theorem dX10_count_91 : decode cX10_count 91 = .ok (.ireturn, 1) := by decide +kernel
theorem dX10_count_92 : decode cX10_count 92 = .ok (.iconst (-1), 1) := by decide +kernel
theorem dX10_count_93 : decode cX10_count 93 = .ok (.ireturn, 1) := by decide +kernel
theorem dX10_unionsOf_0 : decode cX10_unionsOf 0 = .ok (.iconst 0, 1) := by decide +kernel
theorem dX10_unionsOf_1 : decode cX10_unionsOf 1 = .ok (.istore_n 2, 1) := by decide +kernel
theorem dX10_unionsOf_2 : decode cX10_unionsOf 2 = .ok (.iconst 0, 1) := by decide +kernel
theorem dX10_unionsOf_3 : decode cX10_unionsOf 3 = .ok (.istore_n 3, 1) := by decide +kernel
theorem dX10_unionsOf_4 : decode cX10_unionsOf 4 = .ok (.iload_n 3, 1) := by decide +kernel
theorem dX10_unionsOf_5 : decode cX10_unionsOf 5 = .ok (.aload_n 0, 1) := by decide +kernel
theorem dX10_unionsOf_6 : decode cX10_unionsOf 6 = .ok (.invokevirtual 110, 3) := by decide +kernel
theorem dX10_unionsOf_9 : decode cX10_unionsOf 9 = .ok (.if_icmp .ge 26, 3) := by decide +kernel
theorem dX10_unionsOf_12 : decode cX10_unionsOf 12 = .ok (.iload_n 2, 1) := by decide +kernel
theorem dX10_unionsOf_13 : decode cX10_unionsOf 13 = .ok (.aload_n 0, 1) := by decide +kernel
theorem dX10_unionsOf_14 : decode cX10_unionsOf 14 = .ok (.iload_n 3, 1) := by decide +kernel
theorem dX10_unionsOf_15 : decode cX10_unionsOf 15 = .ok (.iload_n 1, 1) := by decide +kernel
theorem dX10_unionsOf_16 : decode cX10_unionsOf 16 = .ok (.invokevirtual 113, 3) := by decide +kernel
theorem dX10_unionsOf_19 : decode cX10_unionsOf 19 = .ok (.ifCond .eq 7, 3) := by decide +kernel
theorem dX10_unionsOf_22 : decode cX10_unionsOf 22 = .ok (.iconst 1, 1) := by decide +kernel
theorem dX10_unionsOf_23 : decode cX10_unionsOf 23 = .ok (.goto 4, 3) := by decide +kernel
theorem dX10_unionsOf_26 : decode cX10_unionsOf 26 = .ok (.iconst 0, 1) := by decide +kernel
theorem dX10_unionsOf_27 : decode cX10_unionsOf 27 = .ok (.iadd, 1) := by decide +kernel
theorem dX10_unionsOf_28 : decode cX10_unionsOf 28 = .ok (.istore_n 2, 1) := by decide +kernel
theorem dX10_unionsOf_29 : decode cX10_unionsOf 29 = .ok (.iinc 3 1, 3) := by decide +kernel
theorem dX10_unionsOf_32 : decode cX10_unionsOf 32 = .ok (.goto (-28), 3) := by decide +kernel
theorem dX10_unionsOf_35 : decode cX10_unionsOf 35 = .ok (.iload_n 2, 1) := by decide +kernel
theorem dX10_unionsOf_36 : decode cX10_unionsOf 36 = .ok (.ireturn, 1) := by decide +kernel
theorem dX10_person_0 : decode cX10_person 0 = .ok (.aload_n 0, 1) := by decide +kernel
theorem dX10_person_1 : decode cX10_person 1 = .ok (.iconst 0, 1) := by decide +kernel
theorem dX10_person_2 : decode cX10_person 2 = .ok (.putfield 95, 3) := by decide +kernel
theorem dX10_person_5 : decode cX10_person 5 = .ok (.aload_n 0, 1) := by decide +kernel
theorem dX10_person_6 : decode cX10_person 6 = .ok (.iload_n 1, 1) := by decide +kernel
theorem dX10_person_7 : decode cX10_person 7 = .ok (.invokevirtual 234, 3) := by decide +kernel
theorem dX10_person_10 : decode cX10_person 10 = .ok (.ifCond .eq 15, 3) := by decide +kernel
theorem dX10_person_13 : decode cX10_person 13 = .ok (.iload_n 2, 1) := by decide +kernel
theorem dX10_person_14 : decode cX10_person 14 = .ok (.i2l, 1) := by decide +kernel
theorem dX10_person_15 : decode cX10_person 15 = .ok (.lconst 0, 1) := by decide +kernel
theorem dX10_person_16 : decode cX10_person 16 = .ok (.ldc2_w 238, 3) := by decide +kernel
theorem dX10_person_19 : decode cX10_person 19 = .ok (.invokestatic 106, 3) := by decide +kernel
theorem dX10_person_22 : decode cX10_person 22 = .ok (.ifCond .ne 9, 3) := by decide +kernel
theorem dX10_person_25 : decode cX10_person 25 = .ok (.aload_n 0, 1) := by decide +kernel
theorem dX10_person_26 : decode cX10_person 26 = .ok (.iconst 1, 1) := by decide +kernel
theorem dX10_person_27 : decode cX10_person 27 = .ok (.invokevirtual 240, 3) := by decide +kernel
theorem dX10_person_30 : decode cX10_person 30 = .ok (.ireturn, 1) := by decide +kernel
theorem dX10_person_31 : decode cX10_person 31 = .ok (.aload_n 0, 1) := by decide +kernel
theorem dX10_person_32 : decode cX10_person 32 = .ok (.invokevirtual 190, 3) := by decide +kernel
theorem dX10_person_35 : decode cX10_person 35 = .ok (.iload_n 2, 1) := by decide +kernel
theorem dX10_person_36 : decode cX10_person 36 = .ok (.tableswitch 59 0 3 #[32, 40, 47, 53], 32) := by decide +kernel
theorem dX10_person_68 : decode cX10_person 68 = .ok (.aload_n 0, 1) := by decide +kernel
theorem dX10_person_69 : decode cX10_person 69 = .ok (.iload_n 1, 1) := by decide +kernel
theorem dX10_person_70 : decode cX10_person 70 = .ok (.iconst 0, 1) := by decide +kernel
theorem dX10_person_71 : decode cX10_person 71 = .ok (.invokevirtual 98, 3) := by decide +kernel
theorem dX10_person_74 : decode cX10_person 74 = .ok (.l2i, 1) := by decide +kernel
theorem dX10_person_75 : decode cX10_person 75 = .ok (.ireturn, 1) := by decide +kernel
theorem dX10_person_76 : decode cX10_person 76 = .ok (.aload_n 0, 1) := by decide +kernel
theorem dX10_person_77 : decode cX10_person 77 = .ok (.getfield 25, 3) := by decide +kernel
theorem dX10_person_80 : decode cX10_person 80 = .ok (.iload_n 1, 1) := by decide +kernel
theorem dX10_person_81 : decode cX10_person 81 = .ok (.iaload, 1) := by decide +kernel
theorem dX10_person_82 : decode cX10_person 82 = .ok (.ireturn, 1) := by decide +kernel
theorem dX10_person_83 : decode cX10_person 83 = .ok (.aload_n 0, 1) := by decide +kernel
theorem dX10_person_84 : decode cX10_person 84 = .ok (.iload_n 1, 1) := by decide +kernel
theorem dX10_person_85 : decode cX10_person 85 = .ok (.invokevirtual 117, 3) := by decide +kernel
theorem dX10_person_88 : decode cX10_person 88 = .ok (.ireturn, 1) := by decide +kernel
theorem dX10_person_89 : decode cX10_person 89 = .ok (.aload_n 0, 1) := by decide +kernel
theorem dX10_person_90 : decode cX10_person 90 = .ok (.iload_n 1, 1) := by decide +kernel
theorem dX10_person_91 : decode cX10_person 91 = .ok (.invokevirtual 243, 3) := by decide +kernel
theorem dX10_person_94 : decode cX10_person 94 = .ok (.ireturn, 1) := by decide +kernel
theorem dX10_person_95 : decode cX10_person 95 = .ok (.aload_n 0, 1) := by decide +kernel
theorem dX10_person_96 : decode cX10_person 96 = .ok (.iload_n 1, 1) := by decide +kernel
theorem dX10_person_97 : decode cX10_person 97 = .ok (.iconst 3, 1) := by decide +kernel
theorem dX10_person_98 : decode cX10_person 98 = .ok (.invokevirtual 98, 3) := by decide +kernel
theorem dX10_person_101 : decode cX10_person 101 = .ok (.l2i, 1) := by decide +kernel
theorem dX10_person_102 : decode cX10_person 102 = .ok (.ireturn, 1) := by decide +kernel
theorem dX10_union_0 : decode cX10_union 0 = .ok (.aload_n 0, 1) := by decide +kernel
theorem dX10_union_1 : decode cX10_union 1 = .ok (.iconst 0, 1) := by decide +kernel
theorem dX10_union_2 : decode cX10_union 2 = .ok (.putfield 95, 3) := by decide +kernel
theorem dX10_union_5 : decode cX10_union 5 = .ok (.aload_n 0, 1) := by decide +kernel
theorem dX10_union_6 : decode cX10_union 6 = .ok (.iload_n 1, 1) := by decide +kernel
theorem dX10_union_7 : decode cX10_union 7 = .ok (.invokevirtual 246, 3) := by decide +kernel
theorem dX10_union_10 : decode cX10_union 10 = .ok (.ifCond .eq 15, 3) := by decide +kernel
theorem dX10_union_13 : decode cX10_union 13 = .ok (.iload_n 2, 1) := by decide +kernel
theorem dX10_union_14 : decode cX10_union 14 = .ok (.i2l, 1) := by decide +kernel
theorem dX10_union_15 : decode cX10_union 15 = .ok (.lconst 0, 1) := by decide +kernel
theorem dX10_union_16 : decode cX10_union 16 = .ok (.ldc2_w 249, 3) := by decide +kernel
theorem dX10_union_19 : decode cX10_union 19 = .ok (.invokestatic 106, 3) := by decide +kernel
theorem dX10_union_22 : decode cX10_union 22 = .ok (.ifCond .ne 9, 3) := by decide +kernel
theorem dX10_union_25 : decode cX10_union 25 = .ok (.aload_n 0, 1) := by decide +kernel
theorem dX10_union_26 : decode cX10_union 26 = .ok (.iconst 1, 1) := by decide +kernel
theorem dX10_union_27 : decode cX10_union 27 = .ok (.invokevirtual 240, 3) := by decide +kernel
theorem dX10_union_30 : decode cX10_union 30 = .ok (.ireturn, 1) := by decide +kernel
theorem dX10_union_31 : decode cX10_union 31 = .ok (.aload_n 0, 1) := by decide +kernel
theorem dX10_union_32 : decode cX10_union 32 = .ok (.invokevirtual 215, 3) := by decide +kernel
theorem dX10_union_35 : decode cX10_union 35 = .ok (.iload_n 2, 1) := by decide +kernel
theorem dX10_union_36 : decode cX10_union 36 = .ok (.tableswitch 60 3 6 #[32, 39, 48, 54], 32) := by decide +kernel
theorem dX10_union_68 : decode cX10_union 68 = .ok (.aload_n 0, 1) := by decide +kernel
theorem dX10_union_69 : decode cX10_union 69 = .ok (.getfield 29, 3) := by decide +kernel
theorem dX10_union_72 : decode cX10_union 72 = .ok (.iload_n 1, 1) := by decide +kernel
theorem dX10_union_73 : decode cX10_union 73 = .ok (.iaload, 1) := by decide +kernel
theorem dX10_union_74 : decode cX10_union 74 = .ok (.ireturn, 1) := by decide +kernel
theorem dX10_union_75 : decode cX10_union 75 = .ok (.aload_n 0, 1) := by decide +kernel
theorem dX10_union_76 : decode cX10_union 76 = .ok (.iload_n 1, 1) := by decide +kernel
theorem dX10_union_77 : decode cX10_union 77 = .ok (.invokevirtual 221, 3) := by decide +kernel
theorem dX10_union_80 : decode cX10_union 80 = .ok (.invokestatic 251, 3) := by decide +kernel
theorem dX10_union_83 : decode cX10_union 83 = .ok (.ireturn, 1) := by decide +kernel
theorem dX10_union_84 : decode cX10_union 84 = .ok (.aload_n 0, 1) := by decide +kernel
theorem dX10_union_85 : decode cX10_union 85 = .ok (.iload_n 1, 1) := by decide +kernel
theorem dX10_union_86 : decode cX10_union 86 = .ok (.invokevirtual 169, 3) := by decide +kernel
theorem dX10_union_89 : decode cX10_union 89 = .ok (.ireturn, 1) := by decide +kernel
theorem dX10_union_90 : decode cX10_union 90 = .ok (.aload_n 0, 1) := by decide +kernel
theorem dX10_union_91 : decode cX10_union 91 = .ok (.iload_n 1, 1) := by decide +kernel
theorem dX10_union_92 : decode cX10_union 92 = .ok (.invokevirtual 187, 3) := by decide +kernel
theorem dX10_union_95 : decode cX10_union 95 = .ok (.ireturn, 1) := by decide +kernel
theorem dX10_union_96 : decode cX10_union 96 = .ok (.aload_n 0, 1) := by decide +kernel
theorem dX10_union_97 : decode cX10_union 97 = .ok (.getfield 22, 3) := by decide +kernel
theorem dX10_union_100 : decode cX10_union 100 = .ok (.bipush 66, 2) := by decide +kernel
theorem dX10_union_102 : decode cX10_union 102 = .ok (.iconst 3, 1) := by decide +kernel
theorem dX10_union_103 : decode cX10_union 103 = .ok (.iload_n 1, 1) := by decide +kernel
theorem dX10_union_104 : decode cX10_union 104 = .ok (.imul, 1) := by decide +kernel
theorem dX10_union_105 : decode cX10_union 105 = .ok (.iadd, 1) := by decide +kernel
theorem dX10_union_106 : decode cX10_union 106 = .ok (.iload_n 2, 1) := by decide +kernel
theorem dX10_union_107 : decode cX10_union 107 = .ok (.iadd, 1) := by decide +kernel
theorem dX10_union_108 : decode cX10_union 108 = .ok (.laload, 1) := by decide +kernel
theorem dX10_union_109 : decode cX10_union 109 = .ok (.l2i, 1) := by decide +kernel
theorem dX10_union_110 : decode cX10_union 110 = .ok (.ireturn, 1) := by decide +kernel
theorem dX10_children_0 : decode cX10_children 0 = .ok (.aload_n 0, 1) := by decide +kernel
theorem dX10_children_1 : decode cX10_children 1 = .ok (.iconst 0, 1) := by decide +kernel
theorem dX10_children_2 : decode cX10_children 2 = .ok (.putfield 95, 3) := by decide +kernel
theorem dX10_children_5 : decode cX10_children 5 = .ok (.aload_n 0, 1) := by decide +kernel
theorem dX10_children_6 : decode cX10_children 6 = .ok (.iload_n 1, 1) := by decide +kernel
theorem dX10_children_7 : decode cX10_children 7 = .ok (.invokevirtual 246, 3) := by decide +kernel
theorem dX10_children_10 : decode cX10_children 10 = .ok (.ifCond .eq 11, 3) := by decide +kernel
theorem dX10_children_13 : decode cX10_children 13 = .ok (.aload_n 0, 1) := by decide +kernel
theorem dX10_children_14 : decode cX10_children 14 = .ok (.iload_n 1, 1) := by decide +kernel
theorem dX10_children_15 : decode cX10_children 15 = .ok (.invokevirtual 221, 3) := by decide +kernel
theorem dX10_children_18 : decode cX10_children 18 = .ok (.goto 8, 3) := by decide +kernel
theorem dX10_children_21 : decode cX10_children 21 = .ok (.aload_n 0, 1) := by decide +kernel
theorem dX10_children_22 : decode cX10_children 22 = .ok (.iconst 1, 1) := by decide +kernel
theorem dX10_children_23 : decode cX10_children 23 = .ok (.invokevirtual 240, 3) := by decide +kernel
theorem dX10_children_26 : decode cX10_children 26 = .ok (.ireturn, 1) := by decide +kernel
theorem dX10_ancestors_0 : decode cX10_ancestors 0 = .ok (.aload_n 0, 1) := by decide +kernel
theorem dX10_ancestors_1 : decode cX10_ancestors 1 = .ok (.iconst 0, 1) := by decide +kernel
theorem dX10_ancestors_2 : decode cX10_ancestors 2 = .ok (.putfield 95, 3) := by decide +kernel
theorem dX10_ancestors_5 : decode cX10_ancestors 5 = .ok (.aload_n 0, 1) := by decide +kernel
theorem dX10_ancestors_6 : decode cX10_ancestors 6 = .ok (.iload_n 1, 1) := by decide +kernel
theorem dX10_ancestors_7 : decode cX10_ancestors 7 = .ok (.invokevirtual 234, 3) := by decide +kernel
theorem dX10_ancestors_10 : decode cX10_ancestors 10 = .ok (.ifCond .eq 11, 3) := by decide +kernel
theorem dX10_ancestors_13 : decode cX10_ancestors 13 = .ok (.aload_n 0, 1) := by decide +kernel
theorem dX10_ancestors_14 : decode cX10_ancestors 14 = .ok (.iload_n 1, 1) := by decide +kernel
theorem dX10_ancestors_15 : decode cX10_ancestors 15 = .ok (.invokevirtual 254, 3) := by decide +kernel
theorem dX10_ancestors_18 : decode cX10_ancestors 18 = .ok (.goto 8, 3) := by decide +kernel
theorem dX10_ancestors_21 : decode cX10_ancestors 21 = .ok (.aload_n 0, 1) := by decide +kernel
theorem dX10_ancestors_22 : decode cX10_ancestors 22 = .ok (.iconst 1, 1) := by decide +kernel
theorem dX10_ancestors_23 : decode cX10_ancestors 23 = .ok (.invokevirtual 240, 3) := by decide +kernel
theorem dX10_ancestors_26 : decode cX10_ancestors 26 = .ok (.ireturn, 1) := by decide +kernel
theorem dX10_descendantMask_0 : decode cX10_descendantMask 0 = .ok (.iconst 0, 1) := by decide +kernel
theorem dX10_descendantMask_1 : decode cX10_descendantMask 1 = .ok (.istore_n 2, 1) := by decide +kernel
theorem dX10_descendantMask_2 : decode cX10_descendantMask 2 = .ok (.iconst 0, 1) := by decide +kernel
theorem dX10_descendantMask_3 : decode cX10_descendantMask 3 = .ok (.istore_n 3, 1) := by decide +kernel
theorem dX10_descendantMask_4 : decode cX10_descendantMask 4 = .ok (.iload_n 3, 1) := by decide +kernel
theorem dX10_descendantMask_5 : decode cX10_descendantMask 5 = .ok (.aload_n 0, 1) := by decide +kernel
theorem dX10_descendantMask_6 : decode cX10_descendantMask 6 = .ok (.invokevirtual 121, 3) := by decide +kernel
theorem dX10_descendantMask_9 : decode cX10_descendantMask 9 = .ok (.if_icmp .ge 23, 3) := by decide +kernel
theorem dX10_descendantMask_12 : decode cX10_descendantMask 12 = .ok (.iload_n 2, 1) := by decide +kernel
theorem dX10_descendantMask_13 : decode cX10_descendantMask 13 = .ok (.aload_n 0, 1) := by decide +kernel
theorem dX10_descendantMask_14 : decode cX10_descendantMask 14 = .ok (.iload_n 3, 1) := by decide +kernel
theorem dX10_descendantMask_15 : decode cX10_descendantMask 15 = .ok (.invokevirtual 254, 3) := by decide +kernel
theorem dX10_descendantMask_18 : decode cX10_descendantMask 18 = .ok (.iload_n 1, 1) := by decide +kernel
theorem dX10_descendantMask_19 : decode cX10_descendantMask 19 = .ok (.ishr, 1) := by decide +kernel
theorem dX10_descendantMask_20 : decode cX10_descendantMask 20 = .ok (.iconst 1, 1) := by decide +kernel
theorem dX10_descendantMask_21 : decode cX10_descendantMask 21 = .ok (.iand, 1) := by decide +kernel
theorem dX10_descendantMask_22 : decode cX10_descendantMask 22 = .ok (.iload_n 3, 1) := by decide +kernel
theorem dX10_descendantMask_23 : decode cX10_descendantMask 23 = .ok (.ishl, 1) := by decide +kernel
theorem dX10_descendantMask_24 : decode cX10_descendantMask 24 = .ok (.ior, 1) := by decide +kernel
theorem dX10_descendantMask_25 : decode cX10_descendantMask 25 = .ok (.istore_n 2, 1) := by decide +kernel
theorem dX10_descendantMask_26 : decode cX10_descendantMask 26 = .ok (.iinc 3 1, 3) := by decide +kernel
theorem dX10_descendantMask_29 : decode cX10_descendantMask 29 = .ok (.goto (-25), 3) := by decide +kernel
theorem dX10_descendantMask_32 : decode cX10_descendantMask 32 = .ok (.iload_n 2, 1) := by decide +kernel
theorem dX10_descendantMask_33 : decode cX10_descendantMask 33 = .ok (.ireturn, 1) := by decide +kernel
theorem dX10_descendants_0 : decode cX10_descendants 0 = .ok (.aload_n 0, 1) := by decide +kernel
theorem dX10_descendants_1 : decode cX10_descendants 1 = .ok (.iconst 0, 1) := by decide +kernel
theorem dX10_descendants_2 : decode cX10_descendants 2 = .ok (.putfield 95, 3) := by decide +kernel
theorem dX10_descendants_5 : decode cX10_descendants 5 = .ok (.aload_n 0, 1) := by decide +kernel
theorem dX10_descendants_6 : decode cX10_descendants 6 = .ok (.iload_n 1, 1) := by decide +kernel
theorem dX10_descendants_7 : decode cX10_descendants 7 = .ok (.invokevirtual 234, 3) := by decide +kernel
theorem dX10_descendants_10 : decode cX10_descendants 10 = .ok (.ifCond .eq 11, 3) := by decide +kernel
theorem dX10_descendants_13 : decode cX10_descendants 13 = .ok (.aload_n 0, 1) := by decide +kernel
theorem dX10_descendants_14 : decode cX10_descendants 14 = .ok (.iload_n 1, 1) := by decide +kernel
theorem dX10_descendants_15 : decode cX10_descendants 15 = .ok (.invokevirtual 257, 3) := by decide +kernel
theorem dX10_descendants_18 : decode cX10_descendants 18 = .ok (.goto 8, 3) := by decide +kernel
theorem dX10_descendants_21 : decode cX10_descendants 21 = .ok (.aload_n 0, 1) := by decide +kernel
theorem dX10_descendants_22 : decode cX10_descendants 22 = .ok (.iconst 1, 1) := by decide +kernel
theorem dX10_descendants_23 : decode cX10_descendants 23 = .ok (.invokevirtual 240, 3) := by decide +kernel
theorem dX10_descendants_26 : decode cX10_descendants 26 = .ok (.ireturn, 1) := by decide +kernel
theorem dX10_forgetKinships_0 : decode cX10_forgetKinships 0 = .ok (.aload_n 0, 1) := by decide +kernel
theorem dX10_forgetKinships_1 : decode cX10_forgetKinships 1 = .ok (.invokevirtual 138, 3) := by decide +kernel
theorem dX10_forgetKinships_4 : decode cX10_forgetKinships 4 = .ok (.iconst 0, 1) := by decide +kernel
theorem dX10_forgetKinships_5 : decode cX10_forgetKinships 5 = .ok (.istore_n 1, 1) := by decide +kernel
theorem dX10_forgetKinships_6 : decode cX10_forgetKinships 6 = .ok (.iload_n 1, 1) := by decide +kernel
theorem dX10_forgetKinships_7 : decode cX10_forgetKinships 7 = .ok (.aload_n 0, 1) := by decide +kernel
theorem dX10_forgetKinships_8 : decode cX10_forgetKinships 8 = .ok (.getfield 51, 3) := by decide +kernel
theorem dX10_forgetKinships_11 : decode cX10_forgetKinships 11 = .ok (.arraylength, 1) := by decide +kernel
theorem dX10_forgetKinships_12 : decode cX10_forgetKinships 12 = .ok (.if_icmp .ge 18, 3) := by decide +kernel
theorem dX10_forgetKinships_15 : decode cX10_forgetKinships 15 = .ok (.aload_n 0, 1) := by decide +kernel
theorem dX10_forgetKinships_16 : decode cX10_forgetKinships 16 = .ok (.getfield 51, 3) := by decide +kernel
theorem dX10_forgetKinships_19 : decode cX10_forgetKinships 19 = .ok (.iload_n 1, 1) := by decide +kernel
theorem dX10_forgetKinships_20 : decode cX10_forgetKinships 20 = .ok (.ldc2_w 260, 3) := by decide +kernel
theorem dX10_forgetKinships_23 : decode cX10_forgetKinships 23 = .ok (.lastore, 1) := by decide +kernel
theorem dX10_forgetKinships_24 : decode cX10_forgetKinships 24 = .ok (.iinc 1 1, 3) := by decide +kernel
theorem dX10_forgetKinships_27 : decode cX10_forgetKinships 27 = .ok (.goto (-21), 3) := by decide +kernel
theorem dX10_forgetKinships_30 : decode cX10_forgetKinships 30 = .ok (.return_, 1) := by decide +kernel
theorem dX10_isLater_0 : decode cX10_isLater 0 = .ok (.aload_n 0, 1) := by decide +kernel
theorem dX10_isLater_1 : decode cX10_isLater 1 = .ok (.getfield 25, 3) := by decide +kernel
theorem dX10_isLater_4 : decode cX10_isLater 4 = .ok (.iload_n 1, 1) := by decide +kernel
theorem dX10_isLater_5 : decode cX10_isLater 5 = .ok (.iaload, 1) := by decide +kernel
theorem dX10_isLater_6 : decode cX10_isLater 6 = .ok (.aload_n 0, 1) := by decide +kernel
theorem dX10_isLater_7 : decode cX10_isLater 7 = .ok (.getfield 25, 3) := by decide +kernel
theorem dX10_isLater_10 : decode cX10_isLater 10 = .ok (.iload_n 2, 1) := by decide +kernel
theorem dX10_isLater_11 : decode cX10_isLater 11 = .ok (.iaload, 1) := by decide +kernel
theorem dX10_isLater_12 : decode cX10_isLater 12 = .ok (.if_icmp .gt 23, 3) := by decide +kernel
theorem dX10_isLater_15 : decode cX10_isLater 15 = .ok (.aload_n 0, 1) := by decide +kernel
theorem dX10_isLater_16 : decode cX10_isLater 16 = .ok (.getfield 25, 3) := by decide +kernel
theorem dX10_isLater_19 : decode cX10_isLater 19 = .ok (.iload_n 1, 1) := by decide +kernel
theorem dX10_isLater_20 : decode cX10_isLater 20 = .ok (.iaload, 1) := by decide +kernel
theorem dX10_isLater_21 : decode cX10_isLater 21 = .ok (.aload_n 0, 1) := by decide +kernel
theorem dX10_isLater_22 : decode cX10_isLater 22 = .ok (.getfield 25, 3) := by decide +kernel
theorem dX10_isLater_25 : decode cX10_isLater 25 = .ok (.iload_n 2, 1) := by decide +kernel
theorem dX10_isLater_26 : decode cX10_isLater 26 = .ok (.iaload, 1) := by decide +kernel
theorem dX10_isLater_27 : decode cX10_isLater 27 = .ok (.if_icmp .ne 12, 3) := by decide +kernel
theorem dX10_isLater_30 : decode cX10_isLater 30 = .ok (.iload_n 1, 1) := by decide +kernel
theorem dX10_isLater_31 : decode cX10_isLater 31 = .ok (.iload_n 2, 1) := by decide +kernel
theorem dX10_isLater_32 : decode cX10_isLater 32 = .ok (.if_icmp .le 7, 3) := by decide +kernel
theorem dX10_isLater_35 : decode cX10_isLater 35 = .ok (.iconst 1, 1) := by decide +kernel
theorem dX10_isLater_36 : decode cX10_isLater 36 = .ok (.goto 4, 3) := by decide +kernel
theorem dX10_isLater_39 : decode cX10_isLater 39 = .ok (.iconst 0, 1) := by decide +kernel
theorem dX10_isLater_40 : decode cX10_isLater 40 = .ok (.ireturn, 1) := by decide +kernel
theorem dX10_kinshipOf_0 : decode cX10_kinshipOf 0 = .ok (.bipush 16, 2) := by decide +kernel
theorem dX10_kinshipOf_2 : decode cX10_kinshipOf 2 = .ok (.iload_n 1, 1) := by decide +kernel
theorem dX10_kinshipOf_3 : decode cX10_kinshipOf 3 = .ok (.imul, 1) := by decide +kernel
theorem dX10_kinshipOf_4 : decode cX10_kinshipOf 4 = .ok (.iload_n 2, 1) := by decide +kernel
theorem dX10_kinshipOf_5 : decode cX10_kinshipOf 5 = .ok (.iadd, 1) := by decide +kernel
theorem dX10_kinshipOf_6 : decode cX10_kinshipOf 6 = .ok (.istore_n 3, 1) := by decide +kernel
theorem dX10_kinshipOf_7 : decode cX10_kinshipOf 7 = .ok (.aload_n 0, 1) := by decide +kernel
theorem dX10_kinshipOf_8 : decode cX10_kinshipOf 8 = .ok (.getfield 51, 3) := by decide +kernel
theorem dX10_kinshipOf_11 : decode cX10_kinshipOf 11 = .ok (.iload_n 3, 1) := by decide +kernel
theorem dX10_kinshipOf_12 : decode cX10_kinshipOf 12 = .ok (.laload, 1) := by decide +kernel
theorem dX10_kinshipOf_13 : decode cX10_kinshipOf 13 = .ok (.ldc2_w 260, 3) := by decide +kernel
theorem dX10_kinshipOf_16 : decode cX10_kinshipOf 16 = .ok (.lcmp, 1) := by decide +kernel
theorem dX10_kinshipOf_17 : decode cX10_kinshipOf 17 = .ok (.ifCond .eq 10, 3) := by decide +kernel
theorem dX10_kinshipOf_20 : decode cX10_kinshipOf 20 = .ok (.aload_n 0, 1) := by decide +kernel
theorem dX10_kinshipOf_21 : decode cX10_kinshipOf 21 = .ok (.getfield 51, 3) := by decide +kernel
theorem dX10_kinshipOf_24 : decode cX10_kinshipOf 24 = .ok (.iload_n 3, 1) := by decide +kernel
theorem dX10_kinshipOf_25 : decode cX10_kinshipOf 25 = .ok (.laload, 1) := by decide +kernel
theorem dX10_kinshipOf_26 : decode cX10_kinshipOf 26 = .ok (.lreturn, 1) := by decide +kernel
theorem dX10_kinshipOf_27 : decode cX10_kinshipOf 27 = .ok (.aload_n 0, 1) := by decide +kernel
theorem dX10_kinshipOf_28 : decode cX10_kinshipOf 28 = .ok (.iload_n 1, 1) := by decide +kernel
theorem dX10_kinshipOf_29 : decode cX10_kinshipOf 29 = .ok (.iload_n 2, 1) := by decide +kernel
theorem dX10_kinshipOf_30 : decode cX10_kinshipOf 30 = .ok (.invokevirtual 262, 3) := by decide +kernel
theorem dX10_kinshipOf_33 : decode cX10_kinshipOf 33 = .ok (.ifCond .eq 7, 3) := by decide +kernel
theorem dX10_kinshipOf_36 : decode cX10_kinshipOf 36 = .ok (.iload_n 1, 1) := by decide +kernel
theorem dX10_kinshipOf_37 : decode cX10_kinshipOf 37 = .ok (.goto 4, 3) := by decide +kernel
theorem dX10_kinshipOf_40 : decode cX10_kinshipOf 40 = .ok (.iload_n 2, 1) := by decide +kernel
theorem dX10_kinshipOf_41 : decode cX10_kinshipOf 41 = .ok (.istore 4, 2) := by decide +kernel
theorem dX10_kinshipOf_43 : decode cX10_kinshipOf 43 = .ok (.iload 4, 2) := by decide +kernel
theorem dX10_kinshipOf_45 : decode cX10_kinshipOf 45 = .ok (.iload_n 1, 1) := by decide +kernel
theorem dX10_kinshipOf_46 : decode cX10_kinshipOf 46 = .ok (.if_icmp .ne 7, 3) := by decide +kernel
theorem dX10_kinshipOf_49 : decode cX10_kinshipOf 49 = .ok (.iload_n 2, 1) := by decide +kernel
theorem dX10_kinshipOf_50 : decode cX10_kinshipOf 50 = .ok (.goto 4, 3) := by decide +kernel
theorem dX10_kinshipOf_53 : decode cX10_kinshipOf 53 = .ok (.iload_n 1, 1) := by decide +kernel
theorem dX10_kinshipOf_54 : decode cX10_kinshipOf 54 = .ok (.istore 5, 2) := by decide +kernel
theorem dX10_kinshipOf_56 : decode cX10_kinshipOf 56 = .ok (.aload_n 0, 1) := by decide +kernel
theorem dX10_kinshipOf_57 : decode cX10_kinshipOf 57 = .ok (.iload 4, 2) := by decide +kernel
theorem dX10_kinshipOf_59 : decode cX10_kinshipOf 59 = .ok (.invokevirtual 117, 3) := by decide +kernel
theorem dX10_kinshipOf_62 : decode cX10_kinshipOf 62 = .ok (.istore 6, 2) := by decide +kernel
theorem dX10_kinshipOf_64 : decode cX10_kinshipOf 64 = .ok (.lconst 0, 1) := by decide +kernel
theorem dX10_kinshipOf_65 : decode cX10_kinshipOf 65 = .ok (.lstore 7, 2) := by decide +kernel
theorem dX10_kinshipOf_67 : decode cX10_kinshipOf 67 = .ok (.iload 6, 2) := by decide +kernel
theorem dX10_kinshipOf_69 : decode cX10_kinshipOf 69 = .ok (.iconst (-1), 1) := by decide +kernel
theorem dX10_kinshipOf_70 : decode cX10_kinshipOf 70 = .ok (.if_icmp .eq 64, 3) := by decide +kernel
theorem dX10_kinshipOf_73 : decode cX10_kinshipOf 73 = .ok (.aload_n 0, 1) := by decide +kernel
theorem dX10_kinshipOf_74 : decode cX10_kinshipOf 74 = .ok (.iload 6, 2) := by decide +kernel
theorem dX10_kinshipOf_76 : decode cX10_kinshipOf 76 = .ok (.iconst 0, 1) := by decide +kernel
theorem dX10_kinshipOf_77 : decode cX10_kinshipOf 77 = .ok (.invokevirtual 102, 3) := by decide +kernel
theorem dX10_kinshipOf_80 : decode cX10_kinshipOf 80 = .ok (.istore 9, 2) := by decide +kernel
theorem dX10_kinshipOf_82 : decode cX10_kinshipOf 82 = .ok (.aload_n 0, 1) := by decide +kernel
theorem dX10_kinshipOf_83 : decode cX10_kinshipOf 83 = .ok (.iload 6, 2) := by decide +kernel
theorem dX10_kinshipOf_85 : decode cX10_kinshipOf 85 = .ok (.iconst 1, 1) := by decide +kernel
theorem dX10_kinshipOf_86 : decode cX10_kinshipOf 86 = .ok (.invokevirtual 102, 3) := by decide +kernel
theorem dX10_kinshipOf_89 : decode cX10_kinshipOf 89 = .ok (.istore 10, 2) := by decide +kernel
theorem dX10_kinshipOf_91 : decode cX10_kinshipOf 91 = .ok (.iload_n 1, 1) := by decide +kernel
theorem dX10_kinshipOf_92 : decode cX10_kinshipOf 92 = .ok (.iload_n 2, 1) := by decide +kernel
theorem dX10_kinshipOf_93 : decode cX10_kinshipOf 93 = .ok (.if_icmp .ne 18, 3) := by decide +kernel
theorem dX10_kinshipOf_96 : decode cX10_kinshipOf 96 = .ok (.aload_n 0, 1) := by decide +kernel
theorem dX10_kinshipOf_97 : decode cX10_kinshipOf 97 = .ok (.iload 9, 2) := by decide +kernel
theorem dX10_kinshipOf_99 : decode cX10_kinshipOf 99 = .ok (.iload 10, 2) := by decide +kernel
theorem dX10_kinshipOf_101 : decode cX10_kinshipOf 101 = .ok (.invokevirtual 265, 3) := by decide +kernel
theorem dX10_kinshipOf_104 : decode cX10_kinshipOf 104 = .ok (.ldc2_w 268, 3) := by decide +kernel
theorem dX10_kinshipOf_107 : decode cX10_kinshipOf 107 = .ok (.ldiv, 1) := by decide +kernel
theorem dX10_kinshipOf_108 : decode cX10_kinshipOf 108 = .ok (.goto 24, 3) := by decide +kernel
theorem dX10_kinshipOf_111 : decode cX10_kinshipOf 111 = .ok (.aload_n 0, 1) := by decide +kernel
theorem dX10_kinshipOf_112 : decode cX10_kinshipOf 112 = .ok (.iload 5, 2) := by decide +kernel
theorem dX10_kinshipOf_114 : decode cX10_kinshipOf 114 = .ok (.iload 9, 2) := by decide +kernel
theorem dX10_kinshipOf_116 : decode cX10_kinshipOf 116 = .ok (.invokevirtual 265, 3) := by decide +kernel
theorem dX10_kinshipOf_119 : decode cX10_kinshipOf 119 = .ok (.aload_n 0, 1) := by decide +kernel
theorem dX10_kinshipOf_120 : decode cX10_kinshipOf 120 = .ok (.iload 5, 2) := by decide +kernel
theorem dX10_kinshipOf_122 : decode cX10_kinshipOf 122 = .ok (.iload 10, 2) := by decide +kernel
theorem dX10_kinshipOf_124 : decode cX10_kinshipOf 124 = .ok (.invokevirtual 265, 3) := by decide +kernel
theorem dX10_kinshipOf_127 : decode cX10_kinshipOf 127 = .ok (.ladd, 1) := by decide +kernel
theorem dX10_kinshipOf_128 : decode cX10_kinshipOf 128 = .ok (.ldc2_w 268, 3) := by decide +kernel
theorem dX10_kinshipOf_131 : decode cX10_kinshipOf 131 = .ok (.ldiv, 1) := by decide +kernel
theorem dX10_kinshipOf_132 : decode cX10_kinshipOf 132 = .ok (.lstore 7, 2) := by decide +kernel
theorem dX10_kinshipOf_134 : decode cX10_kinshipOf 134 = .ok (.aload_n 0, 1) := by decide +kernel
theorem dX10_kinshipOf_135 : decode cX10_kinshipOf 135 = .ok (.getfield 51, 3) := by decide +kernel
theorem dX10_kinshipOf_138 : decode cX10_kinshipOf 138 = .ok (.iload_n 3, 1) := by decide +kernel
theorem dX10_kinshipOf_139 : decode cX10_kinshipOf 139 = .ok (.iload_n 1, 1) := by decide +kernel
theorem dX10_kinshipOf_140 : decode cX10_kinshipOf 140 = .ok (.iload_n 2, 1) := by decide +kernel
theorem dX10_kinshipOf_141 : decode cX10_kinshipOf 141 = .ok (.if_icmp .ne 12, 3) := by decide +kernel
theorem dX10_kinshipOf_144 : decode cX10_kinshipOf 144 = .ok (.ldc2_w 270, 3) := by decide +kernel
theorem dX10_kinshipOf_147 : decode cX10_kinshipOf 147 = .ok (.lload 7, 2) := by decide +kernel
theorem dX10_kinshipOf_149 : decode cX10_kinshipOf 149 = .ok (.ladd, 1) := by decide +kernel
theorem dX10_kinshipOf_150 : decode cX10_kinshipOf 150 = .ok (.goto 5, 3) := by decide +kernel
theorem dX10_kinshipOf_153 : decode cX10_kinshipOf 153 = .ok (.lload 7, 2) := by decide +kernel
theorem dX10_kinshipOf_155 : decode cX10_kinshipOf 155 = .ok (.lastore, 1) := by decide +kernel
theorem dX10_kinshipOf_156 : decode cX10_kinshipOf 156 = .ok (.aload_n 0, 1) := by decide +kernel
theorem dX10_kinshipOf_157 : decode cX10_kinshipOf 157 = .ok (.getfield 51, 3) := by decide +kernel
theorem dX10_kinshipOf_160 : decode cX10_kinshipOf 160 = .ok (.iload_n 3, 1) := by decide +kernel
theorem dX10_kinshipOf_161 : decode cX10_kinshipOf 161 = .ok (.laload, 1) := by decide +kernel
theorem dX10_kinshipOf_162 : decode cX10_kinshipOf 162 = .ok (.lreturn, 1) := by decide +kernel
theorem dX10_arePersons_0 : decode cX10_arePersons 0 = .ok (.aload_n 0, 1) := by decide +kernel
theorem dX10_arePersons_1 : decode cX10_arePersons 1 = .ok (.aload_n 0, 1) := by decide +kernel
theorem dX10_arePersons_2 : decode cX10_arePersons 2 = .ok (.iload_n 1, 1) := by decide +kernel
theorem dX10_arePersons_3 : decode cX10_arePersons 3 = .ok (.invokevirtual 234, 3) := by decide +kernel
theorem dX10_arePersons_6 : decode cX10_arePersons 6 = .ok (.ifCond .eq 15, 3) := by decide +kernel
theorem dX10_arePersons_9 : decode cX10_arePersons 9 = .ok (.aload_n 0, 1) := by decide +kernel
theorem dX10_arePersons_10 : decode cX10_arePersons 10 = .ok (.iload_n 2, 1) := by decide +kernel
theorem dX10_arePersons_11 : decode cX10_arePersons 11 = .ok (.invokevirtual 234, 3) := by decide +kernel
theorem dX10_arePersons_14 : decode cX10_arePersons 14 = .ok (.ifCond .eq 7, 3) := by decide +kernel
theorem dX10_arePersons_17 : decode cX10_arePersons 17 = .ok (.iconst 0, 1) := by decide +kernel
theorem dX10_arePersons_18 : decode cX10_arePersons 18 = .ok (.goto 4, 3) := by decide +kernel
theorem dX10_arePersons_21 : decode cX10_arePersons 21 = .ok (.iconst 1, 1) := by decide +kernel
theorem dX10_arePersons_22 : decode cX10_arePersons 22 = .ok (.putfield 95, 3) := by decide +kernel
theorem dX10_arePersons_25 : decode cX10_arePersons 25 = .ok (.aload_n 0, 1) := by decide +kernel
theorem dX10_arePersons_26 : decode cX10_arePersons 26 = .ok (.getfield 95, 3) := by decide +kernel
theorem dX10_arePersons_29 : decode cX10_arePersons 29 = .ok (.ifCond .ne 7, 3) := by decide +kernel
theorem dX10_arePersons_32 : decode cX10_arePersons 32 = .ok (.iconst 1, 1) := by decide +kernel
theorem dX10_arePersons_33 : decode cX10_arePersons 33 = .ok (.goto 4, 3) := by decide +kernel
theorem dX10_arePersons_36 : decode cX10_arePersons 36 = .ok (.iconst 0, 1) := by decide +kernel
theorem dX10_arePersons_37 : decode cX10_arePersons 37 = .ok (.ireturn, 1) := by decide +kernel
theorem dX10_kinship_0 : decode cX10_kinship 0 = .ok (.aload_n 0, 1) := by decide +kernel
theorem dX10_kinship_1 : decode cX10_kinship 1 = .ok (.iload_n 1, 1) := by decide +kernel
theorem dX10_kinship_2 : decode cX10_kinship 2 = .ok (.iload_n 2, 1) := by decide +kernel
theorem dX10_kinship_3 : decode cX10_kinship 3 = .ok (.invokevirtual 272, 3) := by decide +kernel
theorem dX10_kinship_6 : decode cX10_kinship 6 = .ok (.ifCond .ne 5, 3) := by decide +kernel
theorem dX10_kinship_9 : decode cX10_kinship 9 = .ok (.lconst 0, 1) := by decide +kernel
theorem dX10_kinship_10 : decode cX10_kinship 10 = .ok (.lreturn, 1) := by decide +kernel
theorem dX10_kinship_11 : decode cX10_kinship 11 = .ok (.aload_n 0, 1) := by decide +kernel
theorem dX10_kinship_12 : decode cX10_kinship 12 = .ok (.invokevirtual 275, 3) := by decide +kernel
theorem dX10_kinship_15 : decode cX10_kinship 15 = .ok (.aload_n 0, 1) := by decide +kernel
theorem dX10_kinship_16 : decode cX10_kinship 16 = .ok (.iload_n 1, 1) := by decide +kernel
theorem dX10_kinship_17 : decode cX10_kinship 17 = .ok (.iload_n 2, 1) := by decide +kernel
theorem dX10_kinship_18 : decode cX10_kinship 18 = .ok (.invokevirtual 265, 3) := by decide +kernel
theorem dX10_kinship_21 : decode cX10_kinship 21 = .ok (.lreturn, 1) := by decide +kernel
theorem dX10_isParent_0 : decode cX10_isParent 0 = .ok (.aload_n 0, 1) := by decide +kernel
theorem dX10_isParent_1 : decode cX10_isParent 1 = .ok (.iload_n 2, 1) := by decide +kernel
theorem dX10_isParent_2 : decode cX10_isParent 2 = .ok (.invokevirtual 117, 3) := by decide +kernel
theorem dX10_isParent_5 : decode cX10_isParent 5 = .ok (.iconst (-1), 1) := by decide +kernel
theorem dX10_isParent_6 : decode cX10_isParent 6 = .ok (.if_icmp .eq 20, 3) := by decide +kernel
theorem dX10_isParent_9 : decode cX10_isParent 9 = .ok (.aload_n 0, 1) := by decide +kernel
theorem dX10_isParent_10 : decode cX10_isParent 10 = .ok (.aload_n 0, 1) := by decide +kernel
theorem dX10_isParent_11 : decode cX10_isParent 11 = .ok (.iload_n 2, 1) := by decide +kernel
theorem dX10_isParent_12 : decode cX10_isParent 12 = .ok (.invokevirtual 117, 3) := by decide +kernel
theorem dX10_isParent_15 : decode cX10_isParent 15 = .ok (.iload_n 1, 1) := by decide +kernel
theorem dX10_isParent_16 : decode cX10_isParent 16 = .ok (.invokevirtual 113, 3) := by decide +kernel
theorem dX10_isParent_19 : decode cX10_isParent 19 = .ok (.ifCond .eq 7, 3) := by decide +kernel
theorem dX10_isParent_22 : decode cX10_isParent 22 = .ok (.iconst 1, 1) := by decide +kernel
theorem dX10_isParent_23 : decode cX10_isParent 23 = .ok (.goto 4, 3) := by decide +kernel
theorem dX10_isParent_26 : decode cX10_isParent 26 = .ok (.iconst 0, 1) := by decide +kernel
theorem dX10_isParent_27 : decode cX10_isParent 27 = .ok (.ireturn, 1) := by decide +kernel
theorem dX10_distance_0 : decode cX10_distance 0 = .ok (.aload_n 0, 1) := by decide +kernel
theorem dX10_distance_1 : decode cX10_distance 1 = .ok (.iload_n 1, 1) := by decide +kernel
theorem dX10_distance_2 : decode cX10_distance 2 = .ok (.iload_n 2, 1) := by decide +kernel
theorem dX10_distance_3 : decode cX10_distance 3 = .ok (.invokevirtual 272, 3) := by decide +kernel
theorem dX10_distance_6 : decode cX10_distance 6 = .ok (.ifCond .ne 5, 3) := by decide +kernel
theorem dX10_distance_9 : decode cX10_distance 9 = .ok (.iconst 0, 1) := by decide +kernel
theorem dX10_distance_10 : decode cX10_distance 10 = .ok (.ireturn, 1) := by decide +kernel
theorem dX10_distance_11 : decode cX10_distance 11 = .ok (.iconst 1, 1) := by decide +kernel
theorem dX10_distance_12 : decode cX10_distance 12 = .ok (.iload_n 1, 1) := by decide +kernel
theorem dX10_distance_13 : decode cX10_distance 13 = .ok (.ishl, 1) := by decide +kernel
theorem dX10_distance_14 : decode cX10_distance 14 = .ok (.istore_n 3, 1) := by decide +kernel
theorem dX10_distance_15 : decode cX10_distance 15 = .ok (.iload_n 3, 1) := by decide +kernel
theorem dX10_distance_16 : decode cX10_distance 16 = .ok (.istore 4, 2) := by decide +kernel
theorem dX10_distance_18 : decode cX10_distance 18 = .ok (.iconst 0, 1) := by decide +kernel
theorem dX10_distance_19 : decode cX10_distance 19 = .ok (.istore 5, 2) := by decide +kernel
theorem dX10_distance_21 : decode cX10_distance 21 = .ok (.iload_n 3, 1) := by decide +kernel
theorem dX10_distance_22 : decode cX10_distance 22 = .ok (.iload_n 2, 1) := by decide +kernel
theorem dX10_distance_23 : decode cX10_distance 23 = .ok (.ishr, 1) := by decide +kernel
theorem dX10_distance_24 : decode cX10_distance 24 = .ok (.iconst 1, 1) := by decide +kernel
theorem dX10_distance_25 : decode cX10_distance 25 = .ok (.iand, 1) := by decide +kernel
theorem dX10_distance_26 : decode cX10_distance 26 = .ok (.ifCond .ne 112, 3) := by decide +kernel
theorem dX10_distance_29 : decode cX10_distance 29 = .ok (.iload 4, 2) := by decide +kernel
theorem dX10_distance_31 : decode cX10_distance 31 = .ok (.ifCond .eq 107, 3) := by decide +kernel
theorem dX10_distance_34 : decode cX10_distance 34 = .ok (.iconst 0, 1) := by decide +kernel
theorem dX10_distance_35 : decode cX10_distance 35 = .ok (.istore 6, 2) := by decide +kernel
theorem dX10_distance_37 : decode cX10_distance 37 = .ok (.iconst 0, 1) := by decide +kernel
theorem dX10_distance_38 : decode cX10_distance 38 = .ok (.istore 7, 2) := by decide +kernel
theorem dX10_distance_40 : decode cX10_distance 40 = .ok (.iload 7, 2) := by decide +kernel
theorem dX10_distance_42 : decode cX10_distance 42 = .ok (.aload_n 0, 1) := by decide +kernel
theorem dX10_distance_43 : decode cX10_distance 43 = .ok (.invokevirtual 121, 3) := by decide +kernel
theorem dX10_distance_46 : decode cX10_distance 46 = .ok (.if_icmp .ge 73, 3) := by decide +kernel
theorem dX10_distance_49 : decode cX10_distance 49 = .ok (.iconst 0, 1) := by decide +kernel
theorem dX10_distance_50 : decode cX10_distance 50 = .ok (.istore 8, 2) := by decide +kernel
theorem dX10_distance_52 : decode cX10_distance 52 = .ok (.iload 8, 2) := by decide +kernel
theorem dX10_distance_54 : decode cX10_distance 54 = .ok (.aload_n 0, 1) := by decide +kernel
theorem dX10_distance_55 : decode cX10_distance 55 = .ok (.invokevirtual 121, 3) := by decide +kernel
theorem dX10_distance_58 : decode cX10_distance 58 = .ok (.if_icmp .ge 55, 3) := by decide +kernel
theorem dX10_distance_61 : decode cX10_distance 61 = .ok (.iload 4, 2) := by decide +kernel
theorem dX10_distance_63 : decode cX10_distance 63 = .ok (.iload 7, 2) := by decide +kernel
theorem dX10_distance_65 : decode cX10_distance 65 = .ok (.ishr, 1) := by decide +kernel
theorem dX10_distance_66 : decode cX10_distance 66 = .ok (.iconst 1, 1) := by decide +kernel
theorem dX10_distance_67 : decode cX10_distance 67 = .ok (.iand, 1) := by decide +kernel
