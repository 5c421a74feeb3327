theorem dX0_init_0 : decode cX0_init 0 = .ok (.aload_n 0, 1) := by decide +kernel
theorem dX0_init_1 : decode cX0_init 1 = .ok (.invokespecial 3, 3) := by decide +kernel
theorem dX0_init_4 : decode cX0_init 4 = .ok (.aload_n 0, 1) := by decide +kernel
theorem dX0_init_5 : decode cX0_init 5 = .ok (.bipush 28, 2) := by decide +kernel
theorem dX0_init_7 : decode cX0_init 7 = .ok (.newarray .int, 2) := by decide +kernel
theorem dX0_init_9 : decode cX0_init 9 = .ok (.putfield 9, 3) := by decide +kernel
theorem dX0_init_12 : decode cX0_init 12 = .ok (.aload_n 0, 1) := by decide +kernel
theorem dX0_init_13 : decode cX0_init 13 = .ok (.bipush 28, 2) := by decide +kernel
theorem dX0_init_15 : decode cX0_init 15 = .ok (.newarray .int, 2) := by decide +kernel
theorem dX0_init_17 : decode cX0_init 17 = .ok (.putfield 15, 3) := by decide +kernel
theorem dX0_init_20 : decode cX0_init 20 = .ok (.aload_n 0, 1) := by decide +kernel
theorem dX0_init_21 : decode cX0_init 21 = .ok (.aload_n 1, 1) := by decide +kernel
theorem dX0_init_22 : decode cX0_init 22 = .ok (.putfield 18, 3) := by decide +kernel
theorem dX0_init_25 : decode cX0_init 25 = .ok (.aload_n 0, 1) := by decide +kernel
theorem dX0_init_26 : decode cX0_init 26 = .ok (.aload_n 2, 1) := by decide +kernel
theorem dX0_init_27 : decode cX0_init 27 = .ok (.putfield 22, 3) := by decide +kernel
theorem dX0_init_30 : decode cX0_init 30 = .ok (.return_, 1) := by decide +kernel
theorem dX0_layOut_0 : decode cX0_layOut 0 = .ok (.iconst 0, 1) := by decide +kernel
theorem dX0_layOut_1 : decode cX0_layOut 1 = .ok (.istore_n 1, 1) := by decide +kernel
theorem dX0_layOut_2 : decode cX0_layOut 2 = .ok (.iload_n 1, 1) := by decide +kernel
theorem dX0_layOut_3 : decode cX0_layOut 3 = .ok (.aload_n 0, 1) := by decide +kernel
theorem dX0_layOut_4 : decode cX0_layOut 4 = .ok (.getfield 18, 3) := by decide +kernel
theorem dX0_layOut_7 : decode cX0_layOut 7 = .ok (.getfield 26, 3) := by decide +kernel
theorem dX0_layOut_10 : decode cX0_layOut 10 = .ok (.if_icmp .ge 97, 3) := by decide +kernel
theorem dX0_layOut_13 : decode cX0_layOut 13 = .ok (.iconst 0, 1) := by decide +kernel
theorem dX0_layOut_14 : decode cX0_layOut 14 = .ok (.istore_n 2, 1) := by decide +kernel
theorem dX0_layOut_15 : decode cX0_layOut 15 = .ok (.iconst 0, 1) := by decide +kernel
theorem dX0_layOut_16 : decode cX0_layOut 16 = .ok (.istore_n 3, 1) := by decide +kernel
theorem dX0_layOut_17 : decode cX0_layOut 17 = .ok (.iload_n 3, 1) := by decide +kernel
theorem dX0_layOut_18 : decode cX0_layOut 18 = .ok (.aload_n 0, 1) := by decide +kernel
theorem dX0_layOut_19 : decode cX0_layOut 19 = .ok (.getfield 22, 3) := by decide +kernel
theorem dX0_layOut_22 : decode cX0_layOut 22 = .ok (.iload_n 1, 1) := by decide +kernel
theorem dX0_layOut_23 : decode cX0_layOut 23 = .ok (.invokevirtual 32, 3) := by decide +kernel
theorem dX0_layOut_26 : decode cX0_layOut 26 = .ok (.if_icmp .ge 75, 3) := by decide +kernel
theorem dX0_layOut_29 : decode cX0_layOut 29 = .ok (.aload_n 0, 1) := by decide +kernel
theorem dX0_layOut_30 : decode cX0_layOut 30 = .ok (.getfield 22, 3) := by decide +kernel
theorem dX0_layOut_33 : decode cX0_layOut 33 = .ok (.iload_n 1, 1) := by decide +kernel
theorem dX0_layOut_34 : decode cX0_layOut 34 = .ok (.iload_n 3, 1) := by decide +kernel
theorem dX0_layOut_35 : decode cX0_layOut 35 = .ok (.invokevirtual 38, 3) := by decide +kernel
theorem dX0_layOut_38 : decode cX0_layOut 38 = .ok (.istore 4, 2) := by decide +kernel
theorem dX0_layOut_40 : decode cX0_layOut 40 = .ok (.iload_n 2, 1) := by decide +kernel
theorem dX0_layOut_41 : decode cX0_layOut 41 = .ok (.aload_n 0, 1) := by decide +kernel
theorem dX0_layOut_42 : decode cX0_layOut 42 = .ok (.iload 4, 2) := by decide +kernel
theorem dX0_layOut_44 : decode cX0_layOut 44 = .ok (.invokevirtual 42, 3) := by decide +kernel
theorem dX0_layOut_47 : decode cX0_layOut 47 = .ok (.invokestatic 45, 3) := by decide +kernel
theorem dX0_layOut_50 : decode cX0_layOut 50 = .ok (.istore 5, 2) := by decide +kernel
theorem dX0_layOut_52 : decode cX0_layOut 52 = .ok (.aload_n 0, 1) := by decide +kernel
theorem dX0_layOut_53 : decode cX0_layOut 53 = .ok (.getfield 9, 3) := by decide +kernel
theorem dX0_layOut_56 : decode cX0_layOut 56 = .ok (.iload 4, 2) := by decide +kernel
theorem dX0_layOut_58 : decode cX0_layOut 58 = .ok (.iload 5, 2) := by decide +kernel
theorem dX0_layOut_60 : decode cX0_layOut 60 = .ok (.invokestatic 50, 3) := by decide +kernel
theorem dX0_layOut_63 : decode cX0_layOut 63 = .ok (.aload_n 0, 1) := by decide +kernel
theorem dX0_layOut_64 : decode cX0_layOut 64 = .ok (.getfield 15, 3) := by decide +kernel
theorem dX0_layOut_67 : decode cX0_layOut 67 = .ok (.iload 4, 2) := by decide +kernel
theorem dX0_layOut_69 : decode cX0_layOut 69 = .ok (.iload 5, 2) := by decide +kernel
theorem dX0_layOut_71 : decode cX0_layOut 71 = .ok (.aload_n 0, 1) := by decide +kernel
theorem dX0_layOut_72 : decode cX0_layOut 72 = .ok (.iload 4, 2) := by decide +kernel
theorem dX0_layOut_74 : decode cX0_layOut 74 = .ok (.invokevirtual 54, 3) := by decide +kernel
theorem dX0_layOut_77 : decode cX0_layOut 77 = .ok (.iconst 2, 1) := by decide +kernel
theorem dX0_layOut_78 : decode cX0_layOut 78 = .ok (.idiv, 1) := by decide +kernel
theorem dX0_layOut_79 : decode cX0_layOut 79 = .ok (.iadd, 1) := by decide +kernel
theorem dX0_layOut_80 : decode cX0_layOut 80 = .ok (.invokestatic 50, 3) := by decide +kernel
theorem dX0_layOut_83 : decode cX0_layOut 83 = .ok (.iload 5, 2) := by decide +kernel
theorem dX0_layOut_85 : decode cX0_layOut 85 = .ok (.aload_n 0, 1) := by decide +kernel
theorem dX0_layOut_86 : decode cX0_layOut 86 = .ok (.iload 4, 2) := by decide +kernel
theorem dX0_layOut_88 : decode cX0_layOut 88 = .ok (.invokevirtual 54, 3) := by decide +kernel
theorem dX0_layOut_91 : decode cX0_layOut 91 = .ok (.iadd, 1) := by decide +kernel
theorem dX0_layOut_92 : decode cX0_layOut 92 = .ok (.iconst 1, 1) := by decide +kernel
theorem dX0_layOut_93 : decode cX0_layOut 93 = .ok (.iadd, 1) := by decide +kernel
theorem dX0_layOut_94 : decode cX0_layOut 94 = .ok (.istore_n 2, 1) := by decide +kernel
theorem dX0_layOut_95 : decode cX0_layOut 95 = .ok (.iinc 3 1, 3) := by decide +kernel
theorem dX0_layOut_98 : decode cX0_layOut 98 = .ok (.goto (-81), 3) := by decide +kernel
theorem dX0_layOut_101 : decode cX0_layOut 101 = .ok (.iinc 1 1, 3) := by decide +kernel
theorem dX0_layOut_104 : decode cX0_layOut 104 = .ok (.goto (-102), 3) := by decide +kernel
theorem dX0_layOut_107 : decode cX0_layOut 107 = .ok (.return_, 1) := by decide +kernel
theorem dX0_wantedColumn_0 : decode cX0_wantedColumn 0 = .ok (.iload_n 1, 1) := by decide +kernel
theorem dX0_wantedColumn_1 : decode cX0_wantedColumn 1 = .ok (.bipush 16, 2) := by decide +kernel
theorem dX0_wantedColumn_3 : decode cX0_wantedColumn 3 = .ok (.if_icmp .ge 14, 3) := by decide +kernel
theorem dX0_wantedColumn_6 : decode cX0_wantedColumn 6 = .ok (.aload_n 0, 1) := by decide +kernel
theorem dX0_wantedColumn_7 : decode cX0_wantedColumn 7 = .ok (.getfield 18, 3) := by decide +kernel
theorem dX0_wantedColumn_10 : decode cX0_wantedColumn 10 = .ok (.iload_n 1, 1) := by decide +kernel
theorem dX0_wantedColumn_11 : decode cX0_wantedColumn 11 = .ok (.invokevirtual 57, 3) := by decide +kernel
theorem dX0_wantedColumn_14 : decode cX0_wantedColumn 14 = .ok (.ifCond .ne 5, 3) := by decide +kernel
theorem dX0_wantedColumn_17 : decode cX0_wantedColumn 17 = .ok (.iconst 0, 1) := by decide +kernel
theorem dX0_wantedColumn_18 : decode cX0_wantedColumn 18 = .ok (.ireturn, 1) := by decide +kernel
theorem dX0_wantedColumn_19 : decode cX0_wantedColumn 19 = .ok (.aload_n 0, 1) := by decide +kernel
theorem dX0_wantedColumn_20 : decode cX0_wantedColumn 20 = .ok (.aload_n 0, 1) := by decide +kernel
theorem dX0_wantedColumn_21 : decode cX0_wantedColumn 21 = .ok (.getfield 18, 3) := by decide +kernel
theorem dX0_wantedColumn_24 : decode cX0_wantedColumn 24 = .ok (.getfield 61, 3) := by decide +kernel
theorem dX0_wantedColumn_27 : decode cX0_wantedColumn 27 = .ok (.iload_n 1, 1) := by decide +kernel
theorem dX0_wantedColumn_28 : decode cX0_wantedColumn 28 = .ok (.invokestatic 64, 3) := by decide +kernel
theorem dX0_wantedColumn_31 : decode cX0_wantedColumn 31 = .ok (.invokevirtual 68, 3) := by decide +kernel
theorem dX0_wantedColumn_34 : decode cX0_wantedColumn 34 = .ok (.aload_n 0, 1) := by decide +kernel
theorem dX0_wantedColumn_35 : decode cX0_wantedColumn 35 = .ok (.iload_n 1, 1) := by decide +kernel
theorem dX0_wantedColumn_36 : decode cX0_wantedColumn 36 = .ok (.invokevirtual 54, 3) := by decide +kernel
theorem dX0_wantedColumn_39 : decode cX0_wantedColumn 39 = .ok (.iconst 2, 1) := by decide +kernel
theorem dX0_wantedColumn_40 : decode cX0_wantedColumn 40 = .ok (.idiv, 1) := by decide +kernel
theorem dX0_wantedColumn_41 : decode cX0_wantedColumn 41 = .ok (.isub, 1) := by decide +kernel
theorem dX0_wantedColumn_42 : decode cX0_wantedColumn 42 = .ok (.ireturn, 1) := by decide +kernel
theorem dX0_widthOf_0 : decode cX0_widthOf 0 = .ok (.aload_n 0, 1) := by decide +kernel
theorem dX0_widthOf_1 : decode cX0_widthOf 1 = .ok (.getfield 18, 3) := by decide +kernel
theorem dX0_widthOf_4 : decode cX0_widthOf 4 = .ok (.getfield 71, 3) := by decide +kernel
theorem dX0_widthOf_7 : decode cX0_widthOf 7 = .ok (.aload_n 0, 1) := by decide +kernel
theorem dX0_widthOf_8 : decode cX0_widthOf 8 = .ok (.getfield 22, 3) := by decide +kernel
theorem dX0_widthOf_11 : decode cX0_widthOf 11 = .ok (.iload_n 1, 1) := by decide +kernel
theorem dX0_widthOf_12 : decode cX0_widthOf 12 = .ok (.invokevirtual 74, 3) := by decide +kernel
theorem dX0_widthOf_15 : decode cX0_widthOf 15 = .ok (.invokestatic 64, 3) := by decide +kernel
theorem dX0_widthOf_18 : decode cX0_widthOf 18 = .ok (.iconst 2, 1) := by decide +kernel
theorem dX0_widthOf_19 : decode cX0_widthOf 19 = .ok (.iadd, 1) := by decide +kernel
theorem dX0_widthOf_20 : decode cX0_widthOf 20 = .ok (.ireturn, 1) := by decide +kernel
theorem dX0_middleOfUnion_0 : decode cX0_middleOfUnion 0 = .ok (.aload_n 0, 1) := by decide +kernel
theorem dX0_middleOfUnion_1 : decode cX0_middleOfUnion 1 = .ok (.getfield 15, 3) := by decide +kernel
theorem dX0_middleOfUnion_4 : decode cX0_middleOfUnion 4 = .ok (.aload_n 0, 1) := by decide +kernel
theorem dX0_middleOfUnion_5 : decode cX0_middleOfUnion 5 = .ok (.getfield 22, 3) := by decide +kernel
theorem dX0_middleOfUnion_8 : decode cX0_middleOfUnion 8 = .ok (.getfield 77, 3) := by decide +kernel
theorem dX0_middleOfUnion_11 : decode cX0_middleOfUnion 11 = .ok (.iload_n 1, 1) := by decide +kernel
theorem dX0_middleOfUnion_12 : decode cX0_middleOfUnion 12 = .ok (.invokestatic 64, 3) := by decide +kernel
theorem dX0_middleOfUnion_15 : decode cX0_middleOfUnion 15 = .ok (.invokestatic 64, 3) := by decide +kernel
theorem dX0_middleOfUnion_18 : decode cX0_middleOfUnion 18 = .ok (.istore_n 2, 1) := by decide +kernel
theorem dX0_middleOfUnion_19 : decode cX0_middleOfUnion 19 = .ok (.aload_n 0, 1) := by decide +kernel
theorem dX0_middleOfUnion_20 : decode cX0_middleOfUnion 20 = .ok (.getfield 15, 3) := by decide +kernel
theorem dX0_middleOfUnion_23 : decode cX0_middleOfUnion 23 = .ok (.aload_n 0, 1) := by decide +kernel
theorem dX0_middleOfUnion_24 : decode cX0_middleOfUnion 24 = .ok (.getfield 22, 3) := by decide +kernel
theorem dX0_middleOfUnion_27 : decode cX0_middleOfUnion 27 = .ok (.getfield 80, 3) := by decide +kernel
theorem dX0_middleOfUnion_30 : decode cX0_middleOfUnion 30 = .ok (.iload_n 1, 1) := by decide +kernel
theorem dX0_middleOfUnion_31 : decode cX0_middleOfUnion 31 = .ok (.invokestatic 64, 3) := by decide +kernel
theorem dX0_middleOfUnion_34 : decode cX0_middleOfUnion 34 = .ok (.invokestatic 64, 3) := by decide +kernel
theorem dX0_middleOfUnion_37 : decode cX0_middleOfUnion 37 = .ok (.istore_n 3, 1) := by decide +kernel
theorem dX0_middleOfUnion_38 : decode cX0_middleOfUnion 38 = .ok (.iload_n 2, 1) := by decide +kernel
theorem dX0_middleOfUnion_39 : decode cX0_middleOfUnion 39 = .ok (.iload_n 3, 1) := by decide +kernel
theorem dX0_middleOfUnion_40 : decode cX0_middleOfUnion 40 = .ok (.iadd, 1) := by decide +kernel
theorem dX0_middleOfUnion_41 : decode cX0_middleOfUnion 41 = .ok (.iconst 2, 1) := by decide +kernel
theorem dX0_middleOfUnion_42 : decode cX0_middleOfUnion 42 = .ok (.idiv, 1) := by decide +kernel
theorem dX0_middleOfUnion_43 : decode cX0_middleOfUnion 43 = .ok (.ireturn, 1) := by decide +kernel
theorem dX0_countCut_0 : decode cX0_countCut 0 = .ok (.iconst 0, 1) := by decide +kernel
theorem dX0_countCut_1 : decode cX0_countCut 1 = .ok (.istore_n 2, 1) := by decide +kernel
theorem dX0_countCut_2 : decode cX0_countCut 2 = .ok (.iconst 0, 1) := by decide +kernel
theorem dX0_countCut_3 : decode cX0_countCut 3 = .ok (.istore_n 3, 1) := by decide +kernel
theorem dX0_countCut_4 : decode cX0_countCut 4 = .ok (.iload_n 3, 1) := by decide +kernel
theorem dX0_countCut_5 : decode cX0_countCut 5 = .ok (.aload_n 0, 1) := by decide +kernel
theorem dX0_countCut_6 : decode cX0_countCut 6 = .ok (.getfield 18, 3) := by decide +kernel
theorem dX0_countCut_9 : decode cX0_countCut 9 = .ok (.getfield 26, 3) := by decide +kernel
theorem dX0_countCut_12 : decode cX0_countCut 12 = .ok (.if_icmp .ge 52, 3) := by decide +kernel
theorem dX0_countCut_15 : decode cX0_countCut 15 = .ok (.iconst 0, 1) := by decide +kernel
theorem dX0_countCut_16 : decode cX0_countCut 16 = .ok (.istore 4, 2) := by decide +kernel
theorem dX0_countCut_18 : decode cX0_countCut 18 = .ok (.iload 4, 2) := by decide +kernel
theorem dX0_countCut_20 : decode cX0_countCut 20 = .ok (.aload_n 0, 1) := by decide +kernel
theorem dX0_countCut_21 : decode cX0_countCut 21 = .ok (.getfield 22, 3) := by decide +kernel
theorem dX0_countCut_24 : decode cX0_countCut 24 = .ok (.iload_n 3, 1) := by decide +kernel
theorem dX0_countCut_25 : decode cX0_countCut 25 = .ok (.invokevirtual 32, 3) := by decide +kernel
theorem dX0_countCut_28 : decode cX0_countCut 28 = .ok (.if_icmp .ge 30, 3) := by decide +kernel
theorem dX0_countCut_31 : decode cX0_countCut 31 = .ok (.aload_n 0, 1) := by decide +kernel
theorem dX0_countCut_32 : decode cX0_countCut 32 = .ok (.aload_n 0, 1) := by decide +kernel
theorem dX0_countCut_33 : decode cX0_countCut 33 = .ok (.getfield 22, 3) := by decide +kernel
theorem dX0_countCut_36 : decode cX0_countCut 36 = .ok (.iload_n 3, 1) := by decide +kernel
theorem dX0_countCut_37 : decode cX0_countCut 37 = .ok (.iload 4, 2) := by decide +kernel
theorem dX0_countCut_39 : decode cX0_countCut 39 = .ok (.invokevirtual 38, 3) := by decide +kernel
theorem dX0_countCut_42 : decode cX0_countCut 42 = .ok (.iload_n 1, 1) := by decide +kernel
theorem dX0_countCut_43 : decode cX0_countCut 43 = .ok (.invokevirtual 83, 3) := by decide +kernel
theorem dX0_countCut_46 : decode cX0_countCut 46 = .ok (.ifCond .eq 6, 3) := by decide +kernel
theorem dX0_countCut_49 : decode cX0_countCut 49 = .ok (.iinc 2 1, 3) := by decide +kernel
theorem dX0_countCut_52 : decode cX0_countCut 52 = .ok (.iinc 4 1, 3) := by decide +kernel
theorem dX0_countCut_55 : decode cX0_countCut 55 = .ok (.goto (-37), 3) := by decide +kernel
theorem dX0_countCut_58 : decode cX0_countCut 58 = .ok (.iinc 3 1, 3) := by decide +kernel
theorem dX0_countCut_61 : decode cX0_countCut 61 = .ok (.goto (-57), 3) := by decide +kernel
theorem dX0_countCut_64 : decode cX0_countCut 64 = .ok (.iload_n 2, 1) := by decide +kernel
theorem dX0_countCut_65 : decode cX0_countCut 65 = .ok (.ireturn, 1) := by decide +kernel
theorem dX0_isCut_0 : decode cX0_isCut 0 = .ok (.iload_n 2, 1) := by decide +kernel
theorem dX0_isCut_1 : decode cX0_isCut 1 = .ok (.ifCond .gt 5, 3) := by decide +kernel
theorem dX0_isCut_4 : decode cX0_isCut 4 = .ok (.iconst 0, 1) := by decide +kernel
theorem dX0_isCut_5 : decode cX0_isCut 5 = .ok (.ireturn, 1) := by decide +kernel
theorem dX0_isCut_6 : decode cX0_isCut 6 = .ok (.aload_n 0, 1) := by decide +kernel
theorem dX0_isCut_7 : decode cX0_isCut 7 = .ok (.getfield 9, 3) := by decide +kernel
theorem dX0_isCut_10 : decode cX0_isCut 10 = .ok (.iload_n 1, 1) := by decide +kernel
theorem dX0_isCut_11 : decode cX0_isCut 11 = .ok (.invokestatic 64, 3) := by decide +kernel
theorem dX0_isCut_14 : decode cX0_isCut 14 = .ok (.istore_n 3, 1) := by decide +kernel
theorem dX0_isCut_15 : decode cX0_isCut 15 = .ok (.iload_n 3, 1) := by decide +kernel
theorem dX0_isCut_16 : decode cX0_isCut 16 = .ok (.aload_n 0, 1) := by decide +kernel
theorem dX0_isCut_17 : decode cX0_isCut 17 = .ok (.iload_n 1, 1) := by decide +kernel
theorem dX0_isCut_18 : decode cX0_isCut 18 = .ok (.invokevirtual 54, 3) := by decide +kernel
theorem dX0_isCut_21 : decode cX0_isCut 21 = .ok (.iadd, 1) := by decide +kernel
theorem dX0_isCut_22 : decode cX0_isCut 22 = .ok (.iconst 1, 1) := by decide +kernel
theorem dX0_isCut_23 : decode cX0_isCut 23 = .ok (.isub, 1) := by decide +kernel
theorem dX0_isCut_24 : decode cX0_isCut 24 = .ok (.istore 4, 2) := by decide +kernel
theorem dX0_isCut_26 : decode cX0_isCut 26 = .ok (.iload_n 3, 1) := by decide +kernel
theorem dX0_isCut_27 : decode cX0_isCut 27 = .ok (.iload_n 2, 1) := by decide +kernel
theorem dX0_isCut_28 : decode cX0_isCut 28 = .ok (.idiv, 1) := by decide +kernel
theorem dX0_isCut_29 : decode cX0_isCut 29 = .ok (.iload 4, 2) := by decide +kernel
theorem dX0_isCut_31 : decode cX0_isCut 31 = .ok (.iload_n 2, 1) := by decide +kernel
theorem dX0_isCut_32 : decode cX0_isCut 32 = .ok (.idiv, 1) := by decide +kernel
theorem dX0_isCut_33 : decode cX0_isCut 33 = .ok (.if_icmp .eq 7, 3) := by decide +kernel
theorem dX0_isCut_36 : decode cX0_isCut 36 = .ok (.iconst 1, 1) := by decide +kernel
theorem dX0_isCut_37 : decode cX0_isCut 37 = .ok (.goto 4, 3) := by decide +kernel
theorem dX0_isCut_40 : decode cX0_isCut 40 = .ok (.iconst 0, 1) := by decide +kernel
theorem dX0_isCut_41 : decode cX0_isCut 41 = .ok (.ireturn, 1) := by decide +kernel
theorem dX1_init_0 : decode cX1_init 0 = .ok (.aload_n 0, 1) := by decide +kernel
theorem dX1_init_1 : decode cX1_init 1 = .ok (.invokespecial 3, 3) := by decide +kernel
theorem dX1_init_4 : decode cX1_init 4 = .ok (.aload_n 0, 1) := by decide +kernel
theorem dX1_init_5 : decode cX1_init 5 = .ok (.sipush 128, 3) := by decide +kernel
theorem dX1_init_8 : decode cX1_init 8 = .ok (.newarray .int, 2) := by decide +kernel
theorem dX1_init_10 : decode cX1_init 10 = .ok (.putfield 9, 3) := by decide +kernel
theorem dX1_init_13 : decode cX1_init 13 = .ok (.aload_n 0, 1) := by decide +kernel
theorem dX1_init_14 : decode cX1_init 14 = .ok (.bipush 16, 2) := by decide +kernel
theorem dX1_init_16 : decode cX1_init 16 = .ok (.newarray .int, 2) := by decide +kernel
theorem dX1_init_18 : decode cX1_init 18 = .ok (.putfield 15, 3) := by decide +kernel
theorem dX1_init_21 : decode cX1_init 21 = .ok (.aload_n 0, 1) := by decide +kernel
theorem dX1_init_22 : decode cX1_init 22 = .ok (.bipush 16, 2) := by decide +kernel
theorem dX1_init_24 : decode cX1_init 24 = .ok (.newarray .int, 2) := by decide +kernel
theorem dX1_init_26 : decode cX1_init 26 = .ok (.putfield 18, 3) := by decide +kernel
theorem dX1_init_29 : decode cX1_init 29 = .ok (.aload_n 0, 1) := by decide +kernel
theorem dX1_init_30 : decode cX1_init 30 = .ok (.bipush 16, 2) := by decide +kernel
theorem dX1_init_32 : decode cX1_init 32 = .ok (.newarray .int, 2) := by decide +kernel
theorem dX1_init_34 : decode cX1_init 34 = .ok (.putfield 21, 3) := by decide +kernel
theorem dX1_init_37 : decode cX1_init 37 = .ok (.aload_n 0, 1) := by decide +kernel
theorem dX1_init_38 : decode cX1_init 38 = .ok (.bipush 12, 2) := by decide +kernel
theorem dX1_init_40 : decode cX1_init 40 = .ok (.newarray .int, 2) := by decide +kernel
theorem dX1_init_42 : decode cX1_init 42 = .ok (.putfield 24, 3) := by decide +kernel
theorem dX1_init_45 : decode cX1_init 45 = .ok (.aload_n 0, 1) := by decide +kernel
theorem dX1_init_46 : decode cX1_init 46 = .ok (.bipush 12, 2) := by decide +kernel
theorem dX1_init_48 : decode cX1_init 48 = .ok (.newarray .int, 2) := by decide +kernel
theorem dX1_init_50 : decode cX1_init 50 = .ok (.putfield 27, 3) := by decide +kernel
theorem dX1_init_53 : decode cX1_init 53 = .ok (.aload_n 0, 1) := by decide +kernel
theorem dX1_init_54 : decode cX1_init 54 = .ok (.bipush 12, 2) := by decide +kernel
theorem dX1_init_56 : decode cX1_init 56 = .ok (.newarray .int, 2) := by decide +kernel
theorem dX1_init_58 : decode cX1_init 58 = .ok (.putfield 30, 3) := by decide +kernel
theorem dX1_init_61 : decode cX1_init 61 = .ok (.aload_n 0, 1) := by decide +kernel
theorem dX1_init_62 : decode cX1_init 62 = .ok (.bipush 16, 2) := by decide +kernel
theorem dX1_init_64 : decode cX1_init 64 = .ok (.newarray .int, 2) := by decide +kernel
theorem dX1_init_66 : decode cX1_init 66 = .ok (.putfield 33, 3) := by decide +kernel
theorem dX1_init_69 : decode cX1_init 69 = .ok (.aload_n 0, 1) := by decide +kernel
theorem dX1_init_70 : decode cX1_init 70 = .ok (.bipush 16, 2) := by decide +kernel
theorem dX1_init_72 : decode cX1_init 72 = .ok (.newarray .int, 2) := by decide +kernel
theorem dX1_init_74 : decode cX1_init 74 = .ok (.putfield 36, 3) := by decide +kernel
theorem dX1_init_77 : decode cX1_init 77 = .ok (.aload_n 0, 1) := by decide +kernel
theorem dX1_init_78 : decode cX1_init 78 = .ok (.bipush 12, 2) := by decide +kernel
theorem dX1_init_80 : decode cX1_init 80 = .ok (.newarray .int, 2) := by decide +kernel
theorem dX1_init_82 : decode cX1_init 82 = .ok (.putfield 39, 3) := by decide +kernel
theorem dX1_init_85 : decode cX1_init 85 = .ok (.aload_n 0, 1) := by decide +kernel
theorem dX1_init_86 : decode cX1_init 86 = .ok (.bipush 12, 2) := by decide +kernel
theorem dX1_init_88 : decode cX1_init 88 = .ok (.newarray .int, 2) := by decide +kernel
theorem dX1_init_90 : decode cX1_init 90 = .ok (.putfield 42, 3) := by decide +kernel
theorem dX1_init_93 : decode cX1_init 93 = .ok (.return_, 1) := by decide +kernel
theorem dX1_hasPerson_0 : decode cX1_hasPerson 0 = .ok (.iload_n 1, 1) := by decide +kernel
theorem dX1_hasPerson_1 : decode cX1_hasPerson 1 = .ok (.ifCond .lt 15, 3) := by decide +kernel
theorem dX1_hasPerson_4 : decode cX1_hasPerson 4 = .ok (.iload_n 1, 1) := by decide +kernel
theorem dX1_hasPerson_5 : decode cX1_hasPerson 5 = .ok (.aload_n 0, 1) := by decide +kernel
theorem dX1_hasPerson_6 : decode cX1_hasPerson 6 = .ok (.getfield 45, 3) := by decide +kernel
theorem dX1_hasPerson_9 : decode cX1_hasPerson 9 = .ok (.if_icmp .ge 7, 3) := by decide +kernel
theorem dX1_hasPerson_12 : decode cX1_hasPerson 12 = .ok (.iconst 1, 1) := by decide +kernel
theorem dX1_hasPerson_13 : decode cX1_hasPerson 13 = .ok (.goto 4, 3) := by decide +kernel
theorem dX1_hasPerson_16 : decode cX1_hasPerson 16 = .ok (.iconst 0, 1) := by decide +kernel
theorem dX1_hasPerson_17 : decode cX1_hasPerson 17 = .ok (.ireturn, 1) := by decide +kernel
theorem dX1_hasUnion_0 : decode cX1_hasUnion 0 = .ok (.iload_n 1, 1) := by decide +kernel
theorem dX1_hasUnion_1 : decode cX1_hasUnion 1 = .ok (.ifCond .lt 15, 3) := by decide +kernel
theorem dX1_hasUnion_4 : decode cX1_hasUnion 4 = .ok (.iload_n 1, 1) := by decide +kernel
theorem dX1_hasUnion_5 : decode cX1_hasUnion 5 = .ok (.aload_n 0, 1) := by decide +kernel
theorem dX1_hasUnion_6 : decode cX1_hasUnion 6 = .ok (.getfield 49, 3) := by decide +kernel
theorem dX1_hasUnion_9 : decode cX1_hasUnion 9 = .ok (.if_icmp .ge 7, 3) := by decide +kernel
theorem dX1_hasUnion_12 : decode cX1_hasUnion 12 = .ok (.iconst 1, 1) := by decide +kernel
theorem dX1_hasUnion_13 : decode cX1_hasUnion 13 = .ok (.goto 4, 3) := by decide +kernel
theorem dX1_hasUnion_16 : decode cX1_hasUnion 16 = .ok (.iconst 0, 1) := by decide +kernel
theorem dX1_hasUnion_17 : decode cX1_hasUnion 17 = .ok (.ireturn, 1) := by decide +kernel
theorem dX1_clear_0 : decode cX1_clear 0 = .ok (.aload_n 0, 1) := by decide +kernel
theorem dX1_clear_1 : decode cX1_clear 1 = .ok (.iconst 0, 1) := by decide +kernel
theorem dX1_clear_2 : decode cX1_clear 2 = .ok (.putfield 45, 3) := by decide +kernel
theorem dX1_clear_5 : decode cX1_clear 5 = .ok (.aload_n 0, 1) := by decide +kernel
theorem dX1_clear_6 : decode cX1_clear 6 = .ok (.iconst 0, 1) := by decide +kernel
theorem dX1_clear_7 : decode cX1_clear 7 = .ok (.putfield 49, 3) := by decide +kernel
theorem dX1_clear_10 : decode cX1_clear 10 = .ok (.aload_n 0, 1) := by decide +kernel
theorem dX1_clear_11 : decode cX1_clear 11 = .ok (.invokevirtual 52, 3) := by decide +kernel
theorem dX1_clear_14 : decode cX1_clear 14 = .ok (.return_, 1) := by decide +kernel
theorem dX1_addPerson_0 : decode cX1_addPerson 0 = .ok (.aload_n 0, 1) := by decide +kernel
theorem dX1_addPerson_1 : decode cX1_addPerson 1 = .ok (.getfield 45, 3) := by decide +kernel
theorem dX1_addPerson_4 : decode cX1_addPerson 4 = .ok (.istore_n 1, 1) := by decide +kernel
theorem dX1_addPerson_5 : decode cX1_addPerson 5 = .ok (.aload_n 0, 1) := by decide +kernel
theorem dX1_addPerson_6 : decode cX1_addPerson 6 = .ok (.getfield 18, 3) := by decide +kernel
theorem dX1_addPerson_9 : decode cX1_addPerson 9 = .ok (.iload_n 1, 1) := by decide +kernel
theorem dX1_addPerson_10 : decode cX1_addPerson 10 = .ok (.iconst 0, 1) := by decide +kernel
theorem dX1_addPerson_11 : decode cX1_addPerson 11 = .ok (.invokestatic 55, 3) := by decide +kernel
theorem dX1_addPerson_14 : decode cX1_addPerson 14 = .ok (.aload_n 0, 1) := by decide +kernel
theorem dX1_addPerson_15 : decode cX1_addPerson 15 = .ok (.getfield 15, 3) := by decide +kernel
theorem dX1_addPerson_18 : decode cX1_addPerson 18 = .ok (.iload_n 1, 1) := by decide +kernel
theorem dX1_addPerson_19 : decode cX1_addPerson 19 = .ok (.iconst 0, 1) := by decide +kernel
theorem dX1_addPerson_20 : decode cX1_addPerson 20 = .ok (.invokestatic 55, 3) := by decide +kernel
theorem dX1_addPerson_23 : decode cX1_addPerson 23 = .ok (.aload_n 0, 1) := by decide +kernel
theorem dX1_addPerson_24 : decode cX1_addPerson 24 = .ok (.getfield 21, 3) := by decide +kernel
theorem dX1_addPerson_27 : decode cX1_addPerson 27 = .ok (.iload_n 1, 1) := by decide +kernel
theorem dX1_addPerson_28 : decode cX1_addPerson 28 = .ok (.iconst (-1), 1) := by decide +kernel
theorem dX1_addPerson_29 : decode cX1_addPerson 29 = .ok (.invokestatic 55, 3) := by decide +kernel
theorem dX1_addPerson_32 : decode cX1_addPerson 32 = .ok (.aload_n 0, 1) := by decide +kernel
theorem dX1_addPerson_33 : decode cX1_addPerson 33 = .ok (.dup, 1) := by decide +kernel
theorem dX1_addPerson_34 : decode cX1_addPerson 34 = .ok (.getfield 45, 3) := by decide +kernel
theorem dX1_addPerson_37 : decode cX1_addPerson 37 = .ok (.iconst 1, 1) := by decide +kernel
theorem dX1_addPerson_38 : decode cX1_addPerson 38 = .ok (.iadd, 1) := by decide +kernel
theorem dX1_addPerson_39 : decode cX1_addPerson 39 = .ok (.putfield 45, 3) := by decide +kernel
theorem dX1_addPerson_42 : decode cX1_addPerson 42 = .ok (.iload_n 1, 1) := by decide +kernel
theorem dX1_addPerson_43 : decode cX1_addPerson 43 = .ok (.ireturn, 1) := by decide +kernel
theorem dX1_addLetter_0 : decode cX1_addLetter 0 = .ok (.aload_n 0, 1) := by decide +kernel
theorem dX1_addLetter_1 : decode cX1_addLetter 1 = .ok (.getfield 15, 3) := by decide +kernel
theorem dX1_addLetter_4 : decode cX1_addLetter 4 = .ok (.iload_n 1, 1) := by decide +kernel
theorem dX1_addLetter_5 : decode cX1_addLetter 5 = .ok (.invokestatic 59, 3) := by decide +kernel
theorem dX1_addLetter_8 : decode cX1_addLetter 8 = .ok (.istore_n 3, 1) := by decide +kernel
theorem dX1_addLetter_9 : decode cX1_addLetter 9 = .ok (.aload_n 0, 1) := by decide +kernel
theorem dX1_addLetter_10 : decode cX1_addLetter 10 = .ok (.getfield 9, 3) := by decide +kernel
theorem dX1_addLetter_13 : decode cX1_addLetter 13 = .ok (.iload_n 1, 1) := by decide +kernel
theorem dX1_addLetter_14 : decode cX1_addLetter 14 = .ok (.bipush 8, 2) := by decide +kernel
theorem dX1_addLetter_16 : decode cX1_addLetter 16 = .ok (.imul, 1) := by decide +kernel
theorem dX1_addLetter_17 : decode cX1_addLetter 17 = .ok (.iload_n 3, 1) := by decide +kernel
theorem dX1_addLetter_18 : decode cX1_addLetter 18 = .ok (.iadd, 1) := by decide +kernel
theorem dX1_addLetter_19 : decode cX1_addLetter 19 = .ok (.iload_n 2, 1) := by decide +kernel
theorem dX1_addLetter_20 : decode cX1_addLetter 20 = .ok (.invokestatic 55, 3) := by decide +kernel
theorem dX1_addLetter_23 : decode cX1_addLetter 23 = .ok (.aload_n 0, 1) := by decide +kernel
theorem dX1_addLetter_24 : decode cX1_addLetter 24 = .ok (.getfield 15, 3) := by decide +kernel
theorem dX1_addLetter_27 : decode cX1_addLetter 27 = .ok (.iload_n 1, 1) := by decide +kernel
theorem dX1_addLetter_28 : decode cX1_addLetter 28 = .ok (.iload_n 3, 1) := by decide +kernel
theorem dX1_addLetter_29 : decode cX1_addLetter 29 = .ok (.iconst 1, 1) := by decide +kernel
theorem dX1_addLetter_30 : decode cX1_addLetter 30 = .ok (.iadd, 1) := by decide +kernel
theorem dX1_addLetter_31 : decode cX1_addLetter 31 = .ok (.invokestatic 55, 3) := by decide +kernel
theorem dX1_addLetter_34 : decode cX1_addLetter 34 = .ok (.return_, 1) := by decide +kernel
theorem dX1_addUnion_0 : decode cX1_addUnion 0 = .ok (.aload_n 0, 1) := by decide +kernel
theorem dX1_addUnion_1 : decode cX1_addUnion 1 = .ok (.getfield 49, 3) := by decide +kernel
theorem dX1_addUnion_4 : decode cX1_addUnion 4 = .ok (.istore 4, 2) := by decide +kernel
theorem dX1_addUnion_6 : decode cX1_addUnion 6 = .ok (.aload_n 0, 1) := by decide +kernel
theorem dX1_addUnion_7 : decode cX1_addUnion 7 = .ok (.getfield 24, 3) := by decide +kernel
theorem dX1_addUnion_10 : decode cX1_addUnion 10 = .ok (.iload 4, 2) := by decide +kernel
theorem dX1_addUnion_12 : decode cX1_addUnion 12 = .ok (.iload_n 1, 1) := by decide +kernel
theorem dX1_addUnion_13 : decode cX1_addUnion 13 = .ok (.invokestatic 55, 3) := by decide +kernel
theorem dX1_addUnion_16 : decode cX1_addUnion 16 = .ok (.aload_n 0, 1) := by decide +kernel
theorem dX1_addUnion_17 : decode cX1_addUnion 17 = .ok (.getfield 27, 3) := by decide +kernel
theorem dX1_addUnion_20 : decode cX1_addUnion 20 = .ok (.iload 4, 2) := by decide +kernel
theorem dX1_addUnion_22 : decode cX1_addUnion 22 = .ok (.iload_n 2, 1) := by decide +kernel
theorem dX1_addUnion_23 : decode cX1_addUnion 23 = .ok (.invokestatic 55, 3) := by decide +kernel
theorem dX1_addUnion_26 : decode cX1_addUnion 26 = .ok (.aload_n 0, 1) := by decide +kernel
theorem dX1_addUnion_27 : decode cX1_addUnion 27 = .ok (.getfield 30, 3) := by decide +kernel
theorem dX1_addUnion_30 : decode cX1_addUnion 30 = .ok (.iload 4, 2) := by decide +kernel
theorem dX1_addUnion_32 : decode cX1_addUnion 32 = .ok (.iload_n 3, 1) := by decide +kernel
theorem dX1_addUnion_33 : decode cX1_addUnion 33 = .ok (.invokestatic 55, 3) := by decide +kernel
theorem dX1_addUnion_36 : decode cX1_addUnion 36 = .ok (.aload_n 0, 1) := by decide +kernel
theorem dX1_addUnion_37 : decode cX1_addUnion 37 = .ok (.dup, 1) := by decide +kernel
theorem dX1_addUnion_38 : decode cX1_addUnion 38 = .ok (.getfield 49, 3) := by decide +kernel
theorem dX1_addUnion_41 : decode cX1_addUnion 41 = .ok (.iconst 1, 1) := by decide +kernel
theorem dX1_addUnion_42 : decode cX1_addUnion 42 = .ok (.iadd, 1) := by decide +kernel
theorem dX1_addUnion_43 : decode cX1_addUnion 43 = .ok (.putfield 49, 3) := by decide +kernel
theorem dX1_addUnion_46 : decode cX1_addUnion 46 = .ok (.iload 4, 2) := by decide +kernel
theorem dX1_addUnion_48 : decode cX1_addUnion 48 = .ok (.ireturn, 1) := by decide +kernel
theorem dX1_copyFrom_0 : decode cX1_copyFrom 0 = .ok (.aload_n 0, 1) := by decide +kernel
theorem dX1_copyFrom_1 : decode cX1_copyFrom 1 = .ok (.aload_n 1, 1) := by decide +kernel
theorem dX1_copyFrom_2 : decode cX1_copyFrom 2 = .ok (.getfield 45, 3) := by decide +kernel
theorem dX1_copyFrom_5 : decode cX1_copyFrom 5 = .ok (.putfield 45, 3) := by decide +kernel
theorem dX1_copyFrom_8 : decode cX1_copyFrom 8 = .ok (.aload_n 0, 1) := by decide +kernel
theorem dX1_copyFrom_9 : decode cX1_copyFrom 9 = .ok (.aload_n 1, 1) := by decide +kernel
theorem dX1_copyFrom_10 : decode cX1_copyFrom 10 = .ok (.getfield 49, 3) := by decide +kernel
theorem dX1_copyFrom_13 : decode cX1_copyFrom 13 = .ok (.putfield 49, 3) := by decide +kernel
theorem dX1_copyFrom_16 : decode cX1_copyFrom 16 = .ok (.aload_n 1, 1) := by decide +kernel
theorem dX1_copyFrom_17 : decode cX1_copyFrom 17 = .ok (.getfield 9, 3) := by decide +kernel
theorem dX1_copyFrom_20 : decode cX1_copyFrom 20 = .ok (.iconst 0, 1) := by decide +kernel
theorem dX1_copyFrom_21 : decode cX1_copyFrom 21 = .ok (.aload_n 0, 1) := by decide +kernel
theorem dX1_copyFrom_22 : decode cX1_copyFrom 22 = .ok (.getfield 9, 3) := by decide +kernel
theorem dX1_copyFrom_25 : decode cX1_copyFrom 25 = .ok (.iconst 0, 1) := by decide +kernel
theorem dX1_copyFrom_26 : decode cX1_copyFrom 26 = .ok (.aload_n 0, 1) := by decide +kernel
theorem dX1_copyFrom_27 : decode cX1_copyFrom 27 = .ok (.getfield 9, 3) := by decide +kernel
theorem dX1_copyFrom_30 : decode cX1_copyFrom 30 = .ok (.arraylength, 1) := by decide +kernel
theorem dX1_copyFrom_31 : decode cX1_copyFrom 31 = .ok (.invokestatic 63, 3) := by decide +kernel
theorem dX1_copyFrom_34 : decode cX1_copyFrom 34 = .ok (.aload_n 1, 1) := by decide +kernel
theorem dX1_copyFrom_35 : decode cX1_copyFrom 35 = .ok (.getfield 15, 3) := by decide +kernel
theorem dX1_copyFrom_38 : decode cX1_copyFrom 38 = .ok (.iconst 0, 1) := by decide +kernel
theorem dX1_copyFrom_39 : decode cX1_copyFrom 39 = .ok (.aload_n 0, 1) := by decide +kernel
theorem dX1_copyFrom_40 : decode cX1_copyFrom 40 = .ok (.getfield 15, 3) := by decide +kernel
theorem dX1_copyFrom_43 : decode cX1_copyFrom 43 = .ok (.iconst 0, 1) := by decide +kernel
theorem dX1_copyFrom_44 : decode cX1_copyFrom 44 = .ok (.bipush 16, 2) := by decide +kernel
theorem dX1_copyFrom_46 : decode cX1_copyFrom 46 = .ok (.invokestatic 63, 3) := by decide +kernel
theorem dX1_copyFrom_49 : decode cX1_copyFrom 49 = .ok (.aload_n 1, 1) := by decide +kernel
theorem dX1_copyFrom_50 : decode cX1_copyFrom 50 = .ok (.getfield 18, 3) := by decide +kernel
theorem dX1_copyFrom_53 : decode cX1_copyFrom 53 = .ok (.iconst 0, 1) := by decide +kernel
theorem dX1_copyFrom_54 : decode cX1_copyFrom 54 = .ok (.aload_n 0, 1) := by decide +kernel
theorem dX1_copyFrom_55 : decode cX1_copyFrom 55 = .ok (.getfield 18, 3) := by decide +kernel
theorem dX1_copyFrom_58 : decode cX1_copyFrom 58 = .ok (.iconst 0, 1) := by decide +kernel
theorem dX1_copyFrom_59 : decode cX1_copyFrom 59 = .ok (.bipush 16, 2) := by decide +kernel
theorem dX1_copyFrom_61 : decode cX1_copyFrom 61 = .ok (.invokestatic 63, 3) := by decide +kernel
theorem dX1_copyFrom_64 : decode cX1_copyFrom 64 = .ok (.aload_n 1, 1) := by decide +kernel
theorem dX1_copyFrom_65 : decode cX1_copyFrom 65 = .ok (.getfield 21, 3) := by decide +kernel
theorem dX1_copyFrom_68 : decode cX1_copyFrom 68 = .ok (.iconst 0, 1) := by decide +kernel
theorem dX1_copyFrom_69 : decode cX1_copyFrom 69 = .ok (.aload_n 0, 1) := by decide +kernel
theorem dX1_copyFrom_70 : decode cX1_copyFrom 70 = .ok (.getfield 21, 3) := by decide +kernel
theorem dX1_copyFrom_73 : decode cX1_copyFrom 73 = .ok (.iconst 0, 1) := by decide +kernel
theorem dX1_copyFrom_74 : decode cX1_copyFrom 74 = .ok (.bipush 16, 2) := by decide +kernel
theorem dX1_copyFrom_76 : decode cX1_copyFrom 76 = .ok (.invokestatic 63, 3) := by decide +kernel
theorem dX1_copyFrom_79 : decode cX1_copyFrom 79 = .ok (.aload_n 1, 1) := by decide +kernel
theorem dX1_copyFrom_80 : decode cX1_copyFrom 80 = .ok (.getfield 24, 3) := by decide +kernel
theorem dX1_copyFrom_83 : decode cX1_copyFrom 83 = .ok (.iconst 0, 1) := by decide +kernel
theorem dX1_copyFrom_84 : decode cX1_copyFrom 84 = .ok (.aload_n 0, 1) := by decide +kernel
theorem dX1_copyFrom_85 : decode cX1_copyFrom 85 = .ok (.getfield 24, 3) := by decide +kernel
theorem dX1_copyFrom_88 : decode cX1_copyFrom 88 = .ok (.iconst 0, 1) := by decide +kernel
theorem dX1_copyFrom_89 : decode cX1_copyFrom 89 = .ok (.bipush 12, 2) := by decide +kernel
theorem dX1_copyFrom_91 : decode cX1_copyFrom 91 = .ok (.invokestatic 63, 3) := by decide +kernel
theorem dX1_copyFrom_94 : decode cX1_copyFrom 94 = .ok (.aload_n 1, 1) := by decide +kernel
theorem dX1_copyFrom_95 : decode cX1_copyFrom 95 = .ok (.getfield 27, 3) := by decide +kernel
theorem dX1_copyFrom_98 : decode cX1_copyFrom 98 = .ok (.iconst 0, 1) := by decide +kernel
theorem dX1_copyFrom_99 : decode cX1_copyFrom 99 = .ok (.aload_n 0, 1) := by decide +kernel
theorem dX1_copyFrom_100 : decode cX1_copyFrom 100 = .ok (.getfield 27, 3) := by decide +kernel
theorem dX1_copyFrom_103 : decode cX1_copyFrom 103 = .ok (.iconst 0, 1) := by decide +kernel
theorem dX1_copyFrom_104 : decode cX1_copyFrom 104 = .ok (.bipush 12, 2) := by decide +kernel
theorem dX1_copyFrom_106 : decode cX1_copyFrom 106 = .ok (.invokestatic 63, 3) := by decide +kernel
theorem dX1_copyFrom_109 : decode cX1_copyFrom 109 = .ok (.aload_n 1, 1) := by decide +kernel
theorem dX1_copyFrom_110 : decode cX1_copyFrom 110 = .ok (.getfield 30, 3) := by decide +kernel
theorem dX1_copyFrom_113 : decode cX1_copyFrom 113 = .ok (.iconst 0, 1) := by decide +kernel
theorem dX1_copyFrom_114 : decode cX1_copyFrom 114 = .ok (.aload_n 0, 1) := by decide +kernel
theorem dX1_copyFrom_115 : decode cX1_copyFrom 115 = .ok (.getfield 30, 3) := by decide +kernel
theorem dX1_copyFrom_118 : decode cX1_copyFrom 118 = .ok (.iconst 0, 1) := by decide +kernel
theorem dX1_copyFrom_119 : decode cX1_copyFrom 119 = .ok (.bipush 12, 2) := by decide +kernel
theorem dX1_copyFrom_121 : decode cX1_copyFrom 121 = .ok (.invokestatic 63, 3) := by decide +kernel
theorem dX1_copyFrom_124 : decode cX1_copyFrom 124 = .ok (.aload_n 0, 1) := by decide +kernel
theorem dX1_copyFrom_125 : decode cX1_copyFrom 125 = .ok (.invokevirtual 52, 3) := by decide +kernel
theorem dX1_copyFrom_128 : decode cX1_copyFrom 128 = .ok (.return_, 1) := by decide +kernel
theorem dX1_refresh_0 : decode cX1_refresh 0 = .ok (.aload_n 0, 1) := by decide +kernel
theorem dX1_refresh_1 : decode cX1_refresh 1 = .ok (.getfield 33, 3) := by decide +kernel
theorem dX1_refresh_4 : decode cX1_refresh 4 = .ok (.iconst 0, 1) := by decide +kernel
theorem dX1_refresh_5 : decode cX1_refresh 5 = .ok (.invokestatic 67, 3) := by decide +kernel
theorem dX1_refresh_8 : decode cX1_refresh 8 = .ok (.aload_n 0, 1) := by decide +kernel
theorem dX1_refresh_9 : decode cX1_refresh 9 = .ok (.getfield 36, 3) := by decide +kernel
theorem dX1_refresh_12 : decode cX1_refresh 12 = .ok (.iconst 0, 1) := by decide +kernel
theorem dX1_refresh_13 : decode cX1_refresh 13 = .ok (.invokestatic 67, 3) := by decide +kernel
theorem dX1_refresh_16 : decode cX1_refresh 16 = .ok (.iconst 1, 1) := by decide +kernel
theorem dX1_refresh_17 : decode cX1_refresh 17 = .ok (.istore_n 1, 1) := by decide +kernel
theorem dX1_refresh_18 : decode cX1_refresh 18 = .ok (.iconst 0, 1) := by decide +kernel
theorem dX1_refresh_19 : decode cX1_refresh 19 = .ok (.istore_n 2, 1) := by decide +kernel
theorem dX1_refresh_20 : decode cX1_refresh 20 = .ok (.iload_n 1, 1) := by decide +kernel
theorem dX1_refresh_21 : decode cX1_refresh 21 = .ok (.ifCond .eq 43, 3) := by decide +kernel
theorem dX1_refresh_24 : decode cX1_refresh 24 = .ok (.iload_n 2, 1) := by decide +kernel
theorem dX1_refresh_25 : decode cX1_refresh 25 = .ok (.bipush 16, 2) := by decide +kernel
theorem dX1_refresh_27 : decode cX1_refresh 27 = .ok (.if_icmp .gt 37, 3) := by decide +kernel
theorem dX1_refresh_30 : decode cX1_refresh 30 = .ok (.iconst 0, 1) := by decide +kernel
theorem dX1_refresh_31 : decode cX1_refresh 31 = .ok (.istore_n 1, 1) := by decide +kernel
theorem dX1_refresh_32 : decode cX1_refresh 32 = .ok (.iconst 0, 1) := by decide +kernel
theorem dX1_refresh_33 : decode cX1_refresh 33 = .ok (.istore_n 3, 1) := by decide +kernel
theorem dX1_refresh_34 : decode cX1_refresh 34 = .ok (.iload_n 3, 1) := by decide +kernel
theorem dX1_refresh_35 : decode cX1_refresh 35 = .ok (.aload_n 0, 1) := by decide +kernel
theorem dX1_refresh_36 : decode cX1_refresh 36 = .ok (.getfield 45, 3) := by decide +kernel
theorem dX1_refresh_39 : decode cX1_refresh 39 = .ok (.if_icmp .ge 19, 3) := by decide +kernel
theorem dX1_refresh_42 : decode cX1_refresh 42 = .ok (.aload_n 0, 1) := by decide +kernel
theorem dX1_refresh_43 : decode cX1_refresh 43 = .ok (.iload_n 3, 1) := by decide +kernel
theorem dX1_refresh_44 : decode cX1_refresh 44 = .ok (.invokevirtual 71, 3) := by decide +kernel
theorem dX1_refresh_47 : decode cX1_refresh 47 = .ok (.ifCond .eq 5, 3) := by decide +kernel
theorem dX1_refresh_50 : decode cX1_refresh 50 = .ok (.iconst 1, 1) := by decide +kernel
theorem dX1_refresh_51 : decode cX1_refresh 51 = .ok (.istore_n 1, 1) := by decide +kernel
theorem dX1_refresh_52 : decode cX1_refresh 52 = .ok (.iinc 3 1, 3) := by decide +kernel
theorem dX1_refresh_55 : decode cX1_refresh 55 = .ok (.goto (-21), 3) := by decide +kernel
theorem dX1_refresh_58 : decode cX1_refresh 58 = .ok (.iinc 2 1, 3) := by decide +kernel
theorem dX1_refresh_61 : decode cX1_refresh 61 = .ok (.goto (-41), 3) := by decide +kernel
theorem dX1_refresh_64 : decode cX1_refresh 64 = .ok (.aload_n 0, 1) := by decide +kernel
theorem dX1_refresh_65 : decode cX1_refresh 65 = .ok (.iconst 0, 1) := by decide +kernel
theorem dX1_refresh_66 : decode cX1_refresh 66 = .ok (.putfield 75, 3) := by decide +kernel
theorem dX1_refresh_69 : decode cX1_refresh 69 = .ok (.iconst 0, 1) := by decide +kernel
theorem dX1_refresh_70 : decode cX1_refresh 70 = .ok (.istore_n 2, 1) := by decide +kernel
theorem dX1_refresh_71 : decode cX1_refresh 71 = .ok (.iload_n 2, 1) := by decide +kernel
theorem dX1_refresh_72 : decode cX1_refresh 72 = .ok (.aload_n 0, 1) := by decide +kernel
theorem dX1_refresh_73 : decode cX1_refresh 73 = .ok (.getfield 45, 3) := by decide +kernel
theorem dX1_refresh_76 : decode cX1_refresh 76 = .ok (.if_icmp .ge 30, 3) := by decide +kernel
theorem dX1_refresh_79 : decode cX1_refresh 79 = .ok (.aload_n 0, 1) := by decide +kernel
theorem dX1_refresh_80 : decode cX1_refresh 80 = .ok (.aload_n 0, 1) := by decide +kernel
theorem dX1_refresh_81 : decode cX1_refresh 81 = .ok (.getfield 75, 3) := by decide +kernel
theorem dX1_refresh_84 : decode cX1_refresh 84 = .ok (.aload_n 0, 1) := by decide +kernel
theorem dX1_refresh_85 : decode cX1_refresh 85 = .ok (.getfield 33, 3) := by decide +kernel
theorem dX1_refresh_88 : decode cX1_refresh 88 = .ok (.iload_n 2, 1) := by decide +kernel
theorem dX1_refresh_89 : decode cX1_refresh 89 = .ok (.invokestatic 59, 3) := by decide +kernel
theorem dX1_refresh_92 : decode cX1_refresh 92 = .ok (.iconst 1, 1) := by decide +kernel
theorem dX1_refresh_93 : decode cX1_refresh 93 = .ok (.iadd, 1) := by decide +kernel
theorem dX1_refresh_94 : decode cX1_refresh 94 = .ok (.invokestatic 78, 3) := by decide +kernel
theorem dX1_refresh_97 : decode cX1_refresh 97 = .ok (.putfield 75, 3) := by decide +kernel
theorem dX1_refresh_100 : decode cX1_refresh 100 = .ok (.iinc 2 1, 3) := by decide +kernel
theorem dX1_refresh_103 : decode cX1_refresh 103 = .ok (.goto (-32), 3) := by decide +kernel
theorem dX1_refresh_106 : decode cX1_refresh 106 = .ok (.iconst 0, 1) := by decide +kernel
theorem dX1_refresh_107 : decode cX1_refresh 107 = .ok (.istore_n 2, 1) := by decide +kernel
theorem dX1_refresh_108 : decode cX1_refresh 108 = .ok (.iload_n 2, 1) := by decide +kernel
theorem dX1_refresh_109 : decode cX1_refresh 109 = .ok (.aload_n 0, 1) := by decide +kernel
theorem dX1_refresh_110 : decode cX1_refresh 110 = .ok (.getfield 49, 3) := by decide +kernel
theorem dX1_refresh_113 : decode cX1_refresh 113 = .ok (.if_icmp .ge 14, 3) := by decide +kernel
theorem dX1_refresh_116 : decode cX1_refresh 116 = .ok (.aload_n 0, 1) := by decide +kernel
theorem dX1_refresh_117 : decode cX1_refresh 117 = .ok (.iload_n 2, 1) := by decide +kernel
theorem dX1_refresh_118 : decode cX1_refresh 118 = .ok (.invokevirtual 84, 3) := by decide +kernel
theorem dX1_refresh_121 : decode cX1_refresh 121 = .ok (.iinc 2 1, 3) := by decide +kernel
theorem dX1_refresh_124 : decode cX1_refresh 124 = .ok (.goto (-16), 3) := by decide +kernel
theorem dX1_refresh_127 : decode cX1_refresh 127 = .ok (.return_, 1) := by decide +kernel
theorem dX1_passDown_0 : decode cX1_passDown 0 = .ok (.aload_n 0, 1) := by decide +kernel
theorem dX1_passDown_1 : decode cX1_passDown 1 = .ok (.iload_n 1, 1) := by decide +kernel
theorem dX1_passDown_2 : decode cX1_passDown 2 = .ok (.invokevirtual 88, 3) := by decide +kernel
theorem dX1_passDown_5 : decode cX1_passDown 5 = .ok (.ifCond .ne 5, 3) := by decide +kernel
theorem dX1_passDown_8 : decode cX1_passDown 8 = .ok (.iconst 0, 1) := by decide +kernel
theorem dX1_passDown_9 : decode cX1_passDown 9 = .ok (.ireturn, 1) := by decide +kernel
theorem dX1_passDown_10 : decode cX1_passDown 10 = .ok (.aload_n 0, 1) := by decide +kernel
theorem dX1_passDown_11 : decode cX1_passDown 11 = .ok (.iload_n 1, 1) := by decide +kernel
theorem dX1_passDown_12 : decode cX1_passDown 12 = .ok (.invokevirtual 91, 3) := by decide +kernel
theorem dX1_passDown_15 : decode cX1_passDown 15 = .ok (.istore_n 2, 1) := by decide +kernel
theorem dX1_passDown_16 : decode cX1_passDown 16 = .ok (.aload_n 0, 1) := by decide +kernel
theorem dX1_passDown_17 : decode cX1_passDown 17 = .ok (.iload_n 1, 1) := by decide +kernel
theorem dX1_passDown_18 : decode cX1_passDown 18 = .ok (.invokevirtual 95, 3) := by decide +kernel
theorem dX1_passDown_21 : decode cX1_passDown 21 = .ok (.istore_n 3, 1) := by decide +kernel
theorem dX1_passDown_22 : decode cX1_passDown 22 = .ok (.aload_n 0, 1) := by decide +kernel
theorem dX1_passDown_23 : decode cX1_passDown 23 = .ok (.getfield 33, 3) := by decide +kernel
theorem dX1_passDown_26 : decode cX1_passDown 26 = .ok (.iload_n 2, 1) := by decide +kernel
theorem dX1_passDown_27 : decode cX1_passDown 27 = .ok (.invokestatic 59, 3) := by decide +kernel
theorem dX1_passDown_30 : decode cX1_passDown 30 = .ok (.aload_n 0, 1) := by decide +kernel
theorem dX1_passDown_31 : decode cX1_passDown 31 = .ok (.getfield 33, 3) := by decide +kernel
theorem dX1_passDown_34 : decode cX1_passDown 34 = .ok (.iload_n 3, 1) := by decide +kernel
theorem dX1_passDown_35 : decode cX1_passDown 35 = .ok (.invokestatic 59, 3) := by decide +kernel
theorem dX1_passDown_38 : decode cX1_passDown 38 = .ok (.invokestatic 78, 3) := by decide +kernel
theorem dX1_passDown_41 : decode cX1_passDown 41 = .ok (.iconst 1, 1) := by decide +kernel
theorem dX1_passDown_42 : decode cX1_passDown 42 = .ok (.iadd, 1) := by decide +kernel
theorem dX1_passDown_43 : decode cX1_passDown 43 = .ok (.istore 4, 2) := by decide +kernel
theorem dX1_passDown_45 : decode cX1_passDown 45 = .ok (.aload_n 0, 1) := by decide +kernel
theorem dX1_passDown_46 : decode cX1_passDown 46 = .ok (.iload_n 2, 1) := by decide +kernel
theorem dX1_passDown_47 : decode cX1_passDown 47 = .ok (.invokevirtual 98, 3) := by decide +kernel
theorem dX1_passDown_50 : decode cX1_passDown 50 = .ok (.aload_n 0, 1) := by decide +kernel
theorem dX1_passDown_51 : decode cX1_passDown 51 = .ok (.iload_n 3, 1) := by decide +kernel
theorem dX1_passDown_52 : decode cX1_passDown 52 = .ok (.invokevirtual 98, 3) := by decide +kernel
theorem dX1_passDown_55 : decode cX1_passDown 55 = .ok (.ior, 1) := by decide +kernel
theorem dX1_passDown_56 : decode cX1_passDown 56 = .ok (.istore 5, 2) := by decide +kernel
theorem dX1_passDown_58 : decode cX1_passDown 58 = .ok (.iload 4, 2) := by decide +kernel
theorem dX1_passDown_60 : decode cX1_passDown 60 = .ok (.aload_n 0, 1) := by decide +kernel
theorem dX1_passDown_61 : decode cX1_passDown 61 = .ok (.getfield 33, 3) := by decide +kernel
theorem dX1_passDown_64 : decode cX1_passDown 64 = .ok (.iload_n 1, 1) := by decide +kernel
theorem dX1_passDown_65 : decode cX1_passDown 65 = .ok (.invokestatic 59, 3) := by decide +kernel
theorem dX1_passDown_68 : decode cX1_passDown 68 = .ok (.if_icmp .ne 18, 3) := by decide +kernel
theorem dX1_passDown_71 : decode cX1_passDown 71 = .ok (.iload 5, 2) := by decide +kernel
theorem dX1_passDown_73 : decode cX1_passDown 73 = .ok (.aload_n 0, 1) := by decide +kernel
theorem dX1_passDown_74 : decode cX1_passDown 74 = .ok (.getfield 36, 3) := by decide +kernel
theorem dX1_passDown_77 : decode cX1_passDown 77 = .ok (.iload_n 1, 1) := by decide +kernel
theorem dX1_passDown_78 : decode cX1_passDown 78 = .ok (.invokestatic 59, 3) := by decide +kernel
theorem dX1_passDown_81 : decode cX1_passDown 81 = .ok (.if_icmp .ne 5, 3) := by decide +kernel
theorem dX1_passDown_84 : decode cX1_passDown 84 = .ok (.iconst 0, 1) := by decide +kernel
theorem dX1_passDown_85 : decode cX1_passDown 85 = .ok (.ireturn, 1) := by decide +kernel
theorem dX1_passDown_86 : decode cX1_passDown 86 = .ok (.aload_n 0, 1) := by decide +kernel
theorem dX1_passDown_87 : decode cX1_passDown 87 = .ok (.getfield 33, 3) := by decide +kernel
theorem dX1_passDown_90 : decode cX1_passDown 90 = .ok (.iload_n 1, 1) := by decide +kernel
theorem dX1_passDown_91 : decode cX1_passDown 91 = .ok (.iload 4, 2) := by decide +kernel
theorem dX1_passDown_93 : decode cX1_passDown 93 = .ok (.invokestatic 55, 3) := by decide +kernel
theorem dX1_passDown_96 : decode cX1_passDown 96 = .ok (.aload_n 0, 1) := by decide +kernel
theorem dX1_passDown_97 : decode cX1_passDown 97 = .ok (.getfield 36, 3) := by decide +kernel
theorem dX1_passDown_100 : decode cX1_passDown 100 = .ok (.iload_n 1, 1) := by decide +kernel
theorem dX1_passDown_101 : decode cX1_passDown 101 = .ok (.iload 5, 2) := by decide +kernel
theorem dX1_passDown_103 : decode cX1_passDown 103 = .ok (.invokestatic 55, 3) := by decide +kernel
theorem dX1_passDown_106 : decode cX1_passDown 106 = .ok (.iconst 1, 1) := by decide +kernel
theorem dX1_passDown_107 : decode cX1_passDown 107 = .ok (.ireturn, 1) := by decide +kernel
theorem dX1_noteLevel_0 : decode cX1_noteLevel 0 = .ok (.aload_n 0, 1) := by decide +kernel
theorem dX1_noteLevel_1 : decode cX1_noteLevel 1 = .ok (.getfield 24, 3) := by decide +kernel
theorem dX1_noteLevel_4 : decode cX1_noteLevel 4 = .ok (.iload_n 1, 1) := by decide +kernel
theorem dX1_noteLevel_5 : decode cX1_noteLevel 5 = .ok (.invokestatic 59, 3) := by decide +kernel
theorem dX1_noteLevel_8 : decode cX1_noteLevel 8 = .ok (.istore_n 2, 1) := by decide +kernel
theorem dX1_noteLevel_9 : decode cX1_noteLevel 9 = .ok (.aload_n 0, 1) := by decide +kernel
theorem dX1_noteLevel_10 : decode cX1_noteLevel 10 = .ok (.getfield 27, 3) := by decide +kernel
theorem dX1_noteLevel_13 : decode cX1_noteLevel 13 = .ok (.iload_n 1, 1) := by decide +kernel
theorem dX1_noteLevel_14 : decode cX1_noteLevel 14 = .ok (.invokestatic 59, 3) := by decide +kernel
theorem dX1_noteLevel_17 : decode cX1_noteLevel 17 = .ok (.istore_n 3, 1) := by decide +kernel
theorem dX1_noteLevel_18 : decode cX1_noteLevel 18 = .ok (.aload_n 0, 1) := by decide +kernel
theorem dX1_noteLevel_19 : decode cX1_noteLevel 19 = .ok (.getfield 33, 3) := by decide +kernel
theorem dX1_noteLevel_22 : decode cX1_noteLevel 22 = .ok (.iload_n 2, 1) := by decide +kernel
theorem dX1_noteLevel_23 : decode cX1_noteLevel 23 = .ok (.invokestatic 59, 3) := by decide +kernel
theorem dX1_noteLevel_26 : decode cX1_noteLevel 26 = .ok (.aload_n 0, 1) := by decide +kernel
theorem dX1_noteLevel_27 : decode cX1_noteLevel 27 = .ok (.getfield 33, 3) := by decide +kernel
theorem dX1_noteLevel_30 : decode cX1_noteLevel 30 = .ok (.iload_n 3, 1) := by decide +kernel
theorem dX1_noteLevel_31 : decode cX1_noteLevel 31 = .ok (.invokestatic 59, 3) := by decide +kernel
theorem dX1_noteLevel_34 : decode cX1_noteLevel 34 = .ok (.isub, 1) := by decide +kernel
theorem dX1_noteLevel_35 : decode cX1_noteLevel 35 = .ok (.istore 4, 2) := by decide +kernel
theorem dX1_noteLevel_37 : decode cX1_noteLevel 37 = .ok (.aload_n 0, 1) := by decide +kernel
theorem dX1_noteLevel_38 : decode cX1_noteLevel 38 = .ok (.getfield 39, 3) := by decide +kernel
theorem dX1_noteLevel_41 : decode cX1_noteLevel 41 = .ok (.iload_n 1, 1) := by decide +kernel
theorem dX1_noteLevel_42 : decode cX1_noteLevel 42 = .ok (.aload_n 0, 1) := by decide +kernel
theorem dX1_noteLevel_43 : decode cX1_noteLevel 43 = .ok (.getfield 33, 3) := by decide +kernel
theorem dX1_noteLevel_46 : decode cX1_noteLevel 46 = .ok (.iload 4, 2) := by decide +kernel
theorem dX1_noteLevel_48 : decode cX1_noteLevel 48 = .ok (.ifCond .ge 7, 3) := by decide +kernel
theorem dX1_noteLevel_51 : decode cX1_noteLevel 51 = .ok (.iload_n 3, 1) := by decide +kernel
theorem dX1_noteLevel_52 : decode cX1_noteLevel 52 = .ok (.goto 4, 3) := by decide +kernel
theorem dX1_noteLevel_55 : decode cX1_noteLevel 55 = .ok (.iload_n 2, 1) := by decide +kernel
theorem dX1_noteLevel_56 : decode cX1_noteLevel 56 = .ok (.invokestatic 59, 3) := by decide +kernel
theorem dX1_noteLevel_59 : decode cX1_noteLevel 59 = .ok (.invokestatic 55, 3) := by decide +kernel
theorem dX1_noteLevel_62 : decode cX1_noteLevel 62 = .ok (.aload_n 0, 1) := by decide +kernel
theorem dX1_noteLevel_63 : decode cX1_noteLevel 63 = .ok (.getfield 42, 3) := by decide +kernel
theorem dX1_noteLevel_66 : decode cX1_noteLevel 66 = .ok (.iload_n 1, 1) := by decide +kernel
theorem dX1_noteLevel_67 : decode cX1_noteLevel 67 = .ok (.iload 4, 2) := by decide +kernel
theorem dX1_noteLevel_69 : decode cX1_noteLevel 69 = .ok (.ifCond .ne 7, 3) := by decide +kernel
theorem dX1_noteLevel_72 : decode cX1_noteLevel 72 = .ok (.iconst (-1), 1) := by decide +kernel
theorem dX1_noteLevel_73 : decode cX1_noteLevel 73 = .ok (.goto 13, 3) := by decide +kernel
theorem dX1_noteLevel_76 : decode cX1_noteLevel 76 = .ok (.iload 4, 2) := by decide +kernel
theorem dX1_noteLevel_78 : decode cX1_noteLevel 78 = .ok (.ifCond .ge 7, 3) := by decide +kernel
theorem dX1_noteLevel_81 : decode cX1_noteLevel 81 = .ok (.iload_n 2, 1) := by decide +kernel
theorem dX1_noteLevel_82 : decode cX1_noteLevel 82 = .ok (.goto 4, 3) := by decide +kernel
theorem dX1_noteLevel_85 : decode cX1_noteLevel 85 = .ok (.iload_n 3, 1) := by decide +kernel
theorem dX1_noteLevel_86 : decode cX1_noteLevel 86 = .ok (.invokestatic 55, 3) := by decide +kernel
theorem dX1_noteLevel_89 : decode cX1_noteLevel 89 = .ok (.return_, 1) := by decide +kernel
theorem dX1_lineageMask_0 : decode cX1_lineageMask 0 = .ok (.iload_n 1, 1) := by decide +kernel
theorem dX1_lineageMask_1 : decode cX1_lineageMask 1 = .ok (.invokestatic 101, 3) := by decide +kernel
theorem dX1_lineageMask_4 : decode cX1_lineageMask 4 = .ok (.aload_n 0, 1) := by decide +kernel
theorem dX1_lineageMask_5 : decode cX1_lineageMask 5 = .ok (.getfield 36, 3) := by decide +kernel
theorem dX1_lineageMask_8 : decode cX1_lineageMask 8 = .ok (.iload_n 1, 1) := by decide +kernel
theorem dX1_lineageMask_9 : decode cX1_lineageMask 9 = .ok (.invokestatic 59, 3) := by decide +kernel
theorem dX1_lineageMask_12 : decode cX1_lineageMask 12 = .ok (.ior, 1) := by decide +kernel
theorem dX1_lineageMask_13 : decode cX1_lineageMask 13 = .ok (.ireturn, 1) := by decide +kernel
theorem dX1_hasParents_0 : decode cX1_hasParents 0 = .ok (.aload_n 0, 1) := by decide +kernel
theorem dX1_hasParents_1 : decode cX1_hasParents 1 = .ok (.getfield 21, 3) := by decide +kernel
theorem dX1_hasParents_4 : decode cX1_hasParents 4 = .ok (.iload_n 1, 1) := by decide +kernel
theorem dX1_hasParents_5 : decode cX1_hasParents 5 = .ok (.invokestatic 59, 3) := by decide +kernel
theorem dX1_hasParents_8 : decode cX1_hasParents 8 = .ok (.iconst (-1), 1) := by decide +kernel
theorem dX1_hasParents_9 : decode cX1_hasParents 9 = .ok (.if_icmp .eq 7, 3) := by decide +kernel
theorem dX1_hasParents_12 : decode cX1_hasParents 12 = .ok (.iconst 1, 1) := by decide +kernel
theorem dX1_hasParents_13 : decode cX1_hasParents 13 = .ok (.goto 4, 3) := by decide +kernel
theorem dX1_hasParents_16 : decode cX1_hasParents 16 = .ok (.iconst 0, 1) := by decide +kernel
theorem dX1_hasParents_17 : decode cX1_hasParents 17 = .ok (.ireturn, 1) := by decide +kernel
theorem dX1_firstParent_0 : decode cX1_firstParent 0 = .ok (.aload_n 0, 1) := by decide +kernel
theorem dX1_firstParent_1 : decode cX1_firstParent 1 = .ok (.getfield 24, 3) := by decide +kernel
theorem dX1_firstParent_4 : decode cX1_firstParent 4 = .ok (.aload_n 0, 1) := by decide +kernel
theorem dX1_firstParent_5 : decode cX1_firstParent 5 = .ok (.getfield 21, 3) := by decide +kernel
theorem dX1_firstParent_8 : decode cX1_firstParent 8 = .ok (.iload_n 1, 1) := by decide +kernel
theorem dX1_firstParent_9 : decode cX1_firstParent 9 = .ok (.invokestatic 59, 3) := by decide +kernel
theorem dX1_firstParent_12 : decode cX1_firstParent 12 = .ok (.invokestatic 59, 3) := by decide +kernel
theorem dX1_firstParent_15 : decode cX1_firstParent 15 = .ok (.ireturn, 1) := by decide +kernel
theorem dX1_secondParent_0 : decode cX1_secondParent 0 = .ok (.aload_n 0, 1) := by decide +kernel
theorem dX1_secondParent_1 : decode cX1_secondParent 1 = .ok (.getfield 27, 3) := by decide +kernel
theorem dX1_secondParent_4 : decode cX1_secondParent 4 = .ok (.aload_n 0, 1) := by decide +kernel
theorem dX1_secondParent_5 : decode cX1_secondParent 5 = .ok (.getfield 21, 3) := by decide +kernel
theorem dX1_secondParent_8 : decode cX1_secondParent 8 = .ok (.iload_n 1, 1) := by decide +kernel
theorem dX1_secondParent_9 : decode cX1_secondParent 9 = .ok (.invokestatic 59, 3) := by decide +kernel
theorem dX1_secondParent_12 : decode cX1_secondParent 12 = .ok (.invokestatic 59, 3) := by decide +kernel
theorem dX1_secondParent_15 : decode cX1_secondParent 15 = .ok (.ireturn, 1) := by decide +kernel
theorem dX1_otherPartner_0 : decode cX1_otherPartner 0 = .ok (.aload_n 0, 1) := by decide +kernel
theorem dX1_otherPartner_1 : decode cX1_otherPartner 1 = .ok (.getfield 24, 3) := by decide +kernel
theorem dX1_otherPartner_4 : decode cX1_otherPartner 4 = .ok (.iload_n 1, 1) := by decide +kernel
theorem dX1_otherPartner_5 : decode cX1_otherPartner 5 = .ok (.invokestatic 59, 3) := by decide +kernel
theorem dX1_otherPartner_8 : decode cX1_otherPartner 8 = .ok (.istore_n 3, 1) := by decide +kernel
theorem dX1_otherPartner_9 : decode cX1_otherPartner 9 = .ok (.iload_n 3, 1) := by decide +kernel
theorem dX1_otherPartner_10 : decode cX1_otherPartner 10 = .ok (.iload_n 2, 1) := by decide +kernel
theorem dX1_otherPartner_11 : decode cX1_otherPartner 11 = .ok (.if_icmp .ne 14, 3) := by decide +kernel
theorem dX1_otherPartner_14 : decode cX1_otherPartner 14 = .ok (.aload_n 0, 1) := by decide +kernel
theorem dX1_otherPartner_15 : decode cX1_otherPartner 15 = .ok (.getfield 27, 3) := by decide +kernel
theorem dX1_otherPartner_18 : decode cX1_otherPartner 18 = .ok (.iload_n 1, 1) := by decide +kernel
theorem dX1_otherPartner_19 : decode cX1_otherPartner 19 = .ok (.invokestatic 59, 3) := by decide +kernel
theorem dX1_otherPartner_22 : decode cX1_otherPartner 22 = .ok (.goto 4, 3) := by decide +kernel
theorem dX1_otherPartner_25 : decode cX1_otherPartner 25 = .ok (.iload_n 3, 1) := by decide +kernel
theorem dX1_otherPartner_26 : decode cX1_otherPartner 26 = .ok (.ireturn, 1) := by decide +kernel
theorem dX1_isPartner_0 : decode cX1_isPartner 0 = .ok (.aload_n 0, 1) := by decide +kernel
theorem dX1_isPartner_1 : decode cX1_isPartner 1 = .ok (.getfield 24, 3) := by decide +kernel
theorem dX1_isPartner_4 : decode cX1_isPartner 4 = .ok (.iload_n 1, 1) := by decide +kernel
theorem dX1_isPartner_5 : decode cX1_isPartner 5 = .ok (.invokestatic 59, 3) := by decide +kernel
theorem dX1_isPartner_8 : decode cX1_isPartner 8 = .ok (.iload_n 2, 1) := by decide +kernel
theorem dX1_isPartner_9 : decode cX1_isPartner 9 = .ok (.if_icmp .eq 15, 3) := by decide +kernel
theorem dX1_isPartner_12 : decode cX1_isPartner 12 = .ok (.aload_n 0, 1) := by decide +kernel
theorem dX1_isPartner_13 : decode cX1_isPartner 13 = .ok (.getfield 27, 3) := by decide +kernel
theorem dX1_isPartner_16 : decode cX1_isPartner 16 = .ok (.iload_n 1, 1) := by decide +kernel
theorem dX1_isPartner_17 : decode cX1_isPartner 17 = .ok (.invokestatic 59, 3) := by decide +kernel
theorem dX1_isPartner_20 : decode cX1_isPartner 20 = .ok (.iload_n 2, 1) := by decide +kernel
theorem dX1_isPartner_21 : decode cX1_isPartner 21 = .ok (.if_icmp .ne 7, 3) := by decide +kernel
theorem dX1_isPartner_24 : decode cX1_isPartner 24 = .ok (.iconst 1, 1) := by decide +kernel
theorem dX1_isPartner_25 : decode cX1_isPartner 25 = .ok (.goto 4, 3) := by decide +kernel
theorem dX1_isPartner_28 : decode cX1_isPartner 28 = .ok (.iconst 0, 1) := by decide +kernel
theorem dX1_isPartner_29 : decode cX1_isPartner 29 = .ok (.ireturn, 1) := by decide +kernel
theorem dX1_unionOfPair_0 : decode cX1_unionOfPair 0 = .ok (.iconst 0, 1) := by decide +kernel
theorem dX1_unionOfPair_1 : decode cX1_unionOfPair 1 = .ok (.istore_n 3, 1) := by decide +kernel
theorem dX1_unionOfPair_2 : decode cX1_unionOfPair 2 = .ok (.iload_n 3, 1) := by decide +kernel
theorem dX1_unionOfPair_3 : decode cX1_unionOfPair 3 = .ok (.aload_n 0, 1) := by decide +kernel
theorem dX1_unionOfPair_4 : decode cX1_unionOfPair 4 = .ok (.getfield 49, 3) := by decide +kernel
theorem dX1_unionOfPair_7 : decode cX1_unionOfPair 7 = .ok (.if_icmp .ge 34, 3) := by decide +kernel
theorem dX1_unionOfPair_10 : decode cX1_unionOfPair 10 = .ok (.iload_n 1, 1) := by decide +kernel
theorem dX1_unionOfPair_11 : decode cX1_unionOfPair 11 = .ok (.iload_n 2, 1) := by decide +kernel
theorem dX1_unionOfPair_12 : decode cX1_unionOfPair 12 = .ok (.if_icmp .eq 23, 3) := by decide +kernel
theorem dX1_unionOfPair_15 : decode cX1_unionOfPair 15 = .ok (.aload_n 0, 1) := by decide +kernel
theorem dX1_unionOfPair_16 : decode cX1_unionOfPair 16 = .ok (.iload_n 3, 1) := by decide +kernel
theorem dX1_unionOfPair_17 : decode cX1_unionOfPair 17 = .ok (.iload_n 1, 1) := by decide +kernel
theorem dX1_unionOfPair_18 : decode cX1_unionOfPair 18 = .ok (.invokevirtual 104, 3) := by decide +kernel
theorem dX1_unionOfPair_21 : decode cX1_unionOfPair 21 = .ok (.ifCond .eq 14, 3) := by decide +kernel
theorem dX1_unionOfPair_24 : decode cX1_unionOfPair 24 = .ok (.aload_n 0, 1) := by decide +kernel
theorem dX1_unionOfPair_25 : decode cX1_unionOfPair 25 = .ok (.iload_n 3, 1) := by decide +kernel
theorem dX1_unionOfPair_26 : decode cX1_unionOfPair 26 = .ok (.iload_n 2, 1) := by decide +kernel
theorem dX1_unionOfPair_27 : decode cX1_unionOfPair 27 = .ok (.invokevirtual 104, 3) := by decide +kernel
theorem dX1_unionOfPair_30 : decode cX1_unionOfPair 30 = .ok (.ifCond .eq 5, 3) := by decide +kernel
theorem dX1_unionOfPair_33 : decode cX1_unionOfPair 33 = .ok (.iload_n 3, 1) := by decide +kernel
theorem dX1_unionOfPair_34 : decode cX1_unionOfPair 34 = .ok (.ireturn, 1) := by decide +kernel
theorem dX1_unionOfPair_35 : decode cX1_unionOfPair 35 = .ok (.iinc 3 1, 3) := by decide +kernel
theorem dX1_unionOfPair_38 : decode cX1_unionOfPair 38 = .ok (.goto (-36), 3) := by decide +kernel
theorem dX1_unionOfPair_41 : decode cX1_unionOfPair 41 = .ok (.iconst (-1), 1) := by decide +kernel
theorem dX1_unionOfPair_42 : decode cX1_unionOfPair 42 = .ok (.ireturn, 1) := by decide +kernel
theorem dX1_partnerOrAncestor_0 : decode cX1_partnerOrAncestor 0 = .ok (.aload_n 0, 1) := by decide +kernel
theorem dX1_partnerOrAncestor_1 : decode cX1_partnerOrAncestor 1 = .ok (.aload_n 0, 1) := by decide +kernel
theorem dX1_partnerOrAncestor_2 : decode cX1_partnerOrAncestor 2 = .ok (.getfield 24, 3) := by decide +kernel
theorem dX1_partnerOrAncestor_5 : decode cX1_partnerOrAncestor 5 = .ok (.iload_n 1, 1) := by decide +kernel
theorem dX1_partnerOrAncestor_6 : decode cX1_partnerOrAncestor 6 = .ok (.invokestatic 59, 3) := by decide +kernel
theorem dX1_partnerOrAncestor_9 : decode cX1_partnerOrAncestor 9 = .ok (.invokevirtual 98, 3) := by decide +kernel
theorem dX1_partnerOrAncestor_12 : decode cX1_partnerOrAncestor 12 = .ok (.aload_n 0, 1) := by decide +kernel
theorem dX1_partnerOrAncestor_13 : decode cX1_partnerOrAncestor 13 = .ok (.aload_n 0, 1) := by decide +kernel
theorem dX1_partnerOrAncestor_14 : decode cX1_partnerOrAncestor 14 = .ok (.getfield 27, 3) := by decide +kernel
theorem dX1_partnerOrAncestor_17 : decode cX1_partnerOrAncestor 17 = .ok (.iload_n 1, 1) := by decide +kernel
theorem dX1_partnerOrAncestor_18 : decode cX1_partnerOrAncestor 18 = .ok (.invokestatic 59, 3) := by decide +kernel
theorem dX1_partnerOrAncestor_21 : decode cX1_partnerOrAncestor 21 = .ok (.invokevirtual 98, 3) := by decide +kernel
theorem dX1_partnerOrAncestor_24 : decode cX1_partnerOrAncestor 24 = .ok (.ior, 1) := by decide +kernel
theorem dX1_partnerOrAncestor_25 : decode cX1_partnerOrAncestor 25 = .ok (.istore_n 3, 1) := by decide +kernel
theorem dX1_partnerOrAncestor_26 : decode cX1_partnerOrAncestor 26 = .ok (.iload_n 3, 1) := by decide +kernel
theorem dX1_partnerOrAncestor_27 : decode cX1_partnerOrAncestor 27 = .ok (.iload_n 2, 1) := by decide +kernel
theorem dX1_partnerOrAncestor_28 : decode cX1_partnerOrAncestor 28 = .ok (.invokestatic 101, 3) := by decide +kernel
theorem dX1_partnerOrAncestor_31 : decode cX1_partnerOrAncestor 31 = .ok (.iand, 1) := by decide +kernel
theorem dX1_partnerOrAncestor_32 : decode cX1_partnerOrAncestor 32 = .ok (.ifCond .eq 7, 3) := by decide +kernel
theorem dX1_partnerOrAncestor_35 : decode cX1_partnerOrAncestor 35 = .ok (.iconst 1, 1) := by decide +kernel
theorem dX1_partnerOrAncestor_36 : decode cX1_partnerOrAncestor 36 = .ok (.goto 4, 3) := by decide +kernel
theorem dX1_partnerOrAncestor_39 : decode cX1_partnerOrAncestor 39 = .ok (.iconst 0, 1) := by decide +kernel
theorem dX1_partnerOrAncestor_40 : decode cX1_partnerOrAncestor 40 = .ok (.ireturn, 1) := by decide +kernel
theorem dX1_childMask_0 : decode cX1_childMask 0 = .ok (.iconst 0, 1) := by decide +kernel
theorem dX1_childMask_1 : decode cX1_childMask 1 = .ok (.istore_n 2, 1) := by decide +kernel
theorem dX1_childMask_2 : decode cX1_childMask 2 = .ok (.iconst 0, 1) := by decide +kernel
theorem dX1_childMask_3 : decode cX1_childMask 3 = .ok (.istore_n 3, 1) := by decide +kernel
theorem dX1_childMask_4 : decode cX1_childMask 4 = .ok (.iload_n 3, 1) := by decide +kernel
theorem dX1_childMask_5 : decode cX1_childMask 5 = .ok (.aload_n 0, 1) := by decide +kernel
theorem dX1_childMask_6 : decode cX1_childMask 6 = .ok (.getfield 45, 3) := by decide +kernel
theorem dX1_childMask_9 : decode cX1_childMask 9 = .ok (.if_icmp .ge 28, 3) := by decide +kernel
theorem dX1_childMask_12 : decode cX1_childMask 12 = .ok (.aload_n 0, 1) := by decide +kernel
theorem dX1_childMask_13 : decode cX1_childMask 13 = .ok (.getfield 21, 3) := by decide +kernel
theorem dX1_childMask_16 : decode cX1_childMask 16 = .ok (.iload_n 3, 1) := by decide +kernel
theorem dX1_childMask_17 : decode cX1_childMask 17 = .ok (.invokestatic 59, 3) := by decide +kernel
theorem dX1_childMask_20 : decode cX1_childMask 20 = .ok (.iload_n 1, 1) := by decide +kernel
theorem dX1_childMask_21 : decode cX1_childMask 21 = .ok (.if_icmp .ne 10, 3) := by decide +kernel
theorem dX1_childMask_24 : decode cX1_childMask 24 = .ok (.iload_n 2, 1) := by decide +kernel
theorem dX1_childMask_25 : decode cX1_childMask 25 = .ok (.iload_n 3, 1) := by decide +kernel
theorem dX1_childMask_26 : decode cX1_childMask 26 = .ok (.invokestatic 101, 3) := by decide +kernel
theorem dX1_childMask_29 : decode cX1_childMask 29 = .ok (.ior, 1) := by decide +kernel
theorem dX1_childMask_30 : decode cX1_childMask 30 = .ok (.istore_n 2, 1) := by decide +kernel
theorem dX1_childMask_31 : decode cX1_childMask 31 = .ok (.iinc 3 1, 3) := by decide +kernel
theorem dX1_childMask_34 : decode cX1_childMask 34 = .ok (.goto (-30), 3) := by decide +kernel
theorem dX1_childMask_37 : decode cX1_childMask 37 = .ok (.iload_n 2, 1) := by decide +kernel
theorem dX1_childMask_38 : decode cX1_childMask 38 = .ok (.ireturn, 1) := by decide +kernel
theorem dX1_childMaskOfPerson_0 : decode cX1_childMaskOfPerson 0 = .ok (.iconst 0, 1) := by decide +kernel
theorem dX1_childMaskOfPerson_1 : decode cX1_childMaskOfPerson 1 = .ok (.istore_n 2, 1) := by decide +kernel
theorem dX1_childMaskOfPerson_2 : decode cX1_childMaskOfPerson 2 = .ok (.iconst 0, 1) := by decide +kernel
theorem dX1_childMaskOfPerson_3 : decode cX1_childMaskOfPerson 3 = .ok (.istore_n 3, 1) := by decide +kernel
theorem dX1_childMaskOfPerson_4 : decode cX1_childMaskOfPerson 4 = .ok (.iload_n 3, 1) := by decide +kernel
theorem dX1_childMaskOfPerson_5 : decode cX1_childMaskOfPerson 5 = .ok (.aload_n 0, 1) := by decide +kernel
theorem dX1_childMaskOfPerson_6 : decode cX1_childMaskOfPerson 6 = .ok (.getfield 49, 3) := by decide +kernel
theorem dX1_childMaskOfPerson_9 : decode cX1_childMaskOfPerson 9 = .ok (.if_icmp .ge 26, 3) := by decide +kernel
theorem dX1_childMaskOfPerson_12 : decode cX1_childMaskOfPerson 12 = .ok (.aload_n 0, 1) := by decide +kernel
theorem dX1_childMaskOfPerson_13 : decode cX1_childMaskOfPerson 13 = .ok (.iload_n 3, 1) := by decide +kernel
theorem dX1_childMaskOfPerson_14 : decode cX1_childMaskOfPerson 14 = .ok (.iload_n 1, 1) := by decide +kernel
theorem dX1_childMaskOfPerson_15 : decode cX1_childMaskOfPerson 15 = .ok (.invokevirtual 104, 3) := by decide +kernel
theorem dX1_childMaskOfPerson_18 : decode cX1_childMaskOfPerson 18 = .ok (.ifCond .eq 11, 3) := by decide +kernel
theorem dX1_childMaskOfPerson_21 : decode cX1_childMaskOfPerson 21 = .ok (.iload_n 2, 1) := by decide +kernel
theorem dX1_childMaskOfPerson_22 : decode cX1_childMaskOfPerson 22 = .ok (.aload_n 0, 1) := by decide +kernel
theorem dX1_childMaskOfPerson_23 : decode cX1_childMaskOfPerson 23 = .ok (.iload_n 3, 1) := by decide +kernel
theorem dX1_childMaskOfPerson_24 : decode cX1_childMaskOfPerson 24 = .ok (.invokevirtual 108, 3) := by decide +kernel
theorem dX1_childMaskOfPerson_27 : decode cX1_childMaskOfPerson 27 = .ok (.ior, 1) := by decide +kernel
theorem dX1_childMaskOfPerson_28 : decode cX1_childMaskOfPerson 28 = .ok (.istore_n 2, 1) := by decide +kernel
theorem dX1_childMaskOfPerson_29 : decode cX1_childMaskOfPerson 29 = .ok (.iinc 3 1, 3) := by decide +kernel
theorem dX1_childMaskOfPerson_32 : decode cX1_childMaskOfPerson 32 = .ok (.goto (-28), 3) := by decide +kernel
theorem dX1_childMaskOfPerson_35 : decode cX1_childMaskOfPerson 35 = .ok (.iload_n 2, 1) := by decide +kernel
theorem dX1_childMaskOfPerson_36 : decode cX1_childMaskOfPerson 36 = .ok (.ireturn, 1) := by decide +kernel
theorem dX1_descendantMask_0 : decode cX1_descendantMask 0 = .ok (.iconst 0, 1) := by decide +kernel
theorem dX1_descendantMask_1 : decode cX1_descendantMask 1 = .ok (.istore_n 2, 1) := by decide +kernel
theorem dX1_descendantMask_2 : decode cX1_descendantMask 2 = .ok (.iconst 0, 1) := by decide +kernel
theorem dX1_descendantMask_3 : decode cX1_descendantMask 3 = .ok (.istore_n 3, 1) := by decide +kernel
theorem dX1_descendantMask_4 : decode cX1_descendantMask 4 = .ok (.iload_n 3, 1) := by decide +kernel
theorem dX1_descendantMask_5 : decode cX1_descendantMask 5 = .ok (.aload_n 0, 1) := by decide +kernel
theorem dX1_descendantMask_6 : decode cX1_descendantMask 6 = .ok (.getfield 45, 3) := by decide +kernel
theorem dX1_descendantMask_9 : decode cX1_descendantMask 9 = .ok (.if_icmp .ge 32, 3) := by decide +kernel
theorem dX1_descendantMask_12 : decode cX1_descendantMask 12 = .ok (.aload_n 0, 1) := by decide +kernel
theorem dX1_descendantMask_13 : decode cX1_descendantMask 13 = .ok (.getfield 36, 3) := by decide +kernel
theorem dX1_descendantMask_16 : decode cX1_descendantMask 16 = .ok (.iload_n 3, 1) := by decide +kernel
theorem dX1_descendantMask_17 : decode cX1_descendantMask 17 = .ok (.invokestatic 59, 3) := by decide +kernel
theorem dX1_descendantMask_20 : decode cX1_descendantMask 20 = .ok (.iload_n 1, 1) := by decide +kernel
theorem dX1_descendantMask_21 : decode cX1_descendantMask 21 = .ok (.invokestatic 101, 3) := by decide +kernel
theorem dX1_descendantMask_24 : decode cX1_descendantMask 24 = .ok (.iand, 1) := by decide +kernel
theorem dX1_descendantMask_25 : decode cX1_descendantMask 25 = .ok (.ifCond .eq 10, 3) := by decide +kernel
theorem dX1_descendantMask_28 : decode cX1_descendantMask 28 = .ok (.iload_n 2, 1) := by decide +kernel
theorem dX1_descendantMask_29 : decode cX1_descendantMask 29 = .ok (.iload_n 3, 1) := by decide +kernel
theorem dX1_descendantMask_30 : decode cX1_descendantMask 30 = .ok (.invokestatic 101, 3) := by decide +kernel
theorem dX1_descendantMask_33 : decode cX1_descendantMask 33 = .ok (.ior, 1) := by decide +kernel
theorem dX1_descendantMask_34 : decode cX1_descendantMask 34 = .ok (.istore_n 2, 1) := by decide +kernel
theorem dX1_descendantMask_35 : decode cX1_descendantMask 35 = .ok (.iinc 3 1, 3) := by decide +kernel
theorem dX1_descendantMask_38 : decode cX1_descendantMask 38 = .ok (.goto (-34), 3) := by decide +kernel
theorem dX1_descendantMask_41 : decode cX1_descendantMask 41 = .ok (.iload_n 2, 1) := by decide +kernel
theorem dX1_descendantMask_42 : decode cX1_descendantMask 42 = .ok (.ireturn, 1) := by decide +kernel
theorem dX1_countUnionsOf_0 : decode cX1_countUnionsOf 0 = .ok (.iconst 0, 1) := by decide +kernel
theorem dX1_countUnionsOf_1 : decode cX1_countUnionsOf 1 = .ok (.istore_n 2, 1) := by decide +kernel
theorem dX1_countUnionsOf_2 : decode cX1_countUnionsOf 2 = .ok (.iconst 0, 1) := by decide +kernel
theorem dX1_countUnionsOf_3 : decode cX1_countUnionsOf 3 = .ok (.istore_n 3, 1) := by decide +kernel
theorem dX1_countUnionsOf_4 : decode cX1_countUnionsOf 4 = .ok (.iload_n 3, 1) := by decide +kernel
theorem dX1_countUnionsOf_5 : decode cX1_countUnionsOf 5 = .ok (.aload_n 0, 1) := by decide +kernel
theorem dX1_countUnionsOf_6 : decode cX1_countUnionsOf 6 = .ok (.getfield 49, 3) := by decide +kernel
theorem dX1_countUnionsOf_9 : decode cX1_countUnionsOf 9 = .ok (.if_icmp .ge 21, 3) := by decide +kernel
theorem dX1_countUnionsOf_12 : decode cX1_countUnionsOf 12 = .ok (.aload_n 0, 1) := by decide +kernel
theorem dX1_countUnionsOf_13 : decode cX1_countUnionsOf 13 = .ok (.iload_n 3, 1) := by decide +kernel
theorem dX1_countUnionsOf_14 : decode cX1_countUnionsOf 14 = .ok (.iload_n 1, 1) := by decide +kernel
theorem dX1_countUnionsOf_15 : decode cX1_countUnionsOf 15 = .ok (.invokevirtual 104, 3) := by decide +kernel
theorem dX1_countUnionsOf_18 : decode cX1_countUnionsOf 18 = .ok (.ifCond .eq 6, 3) := by decide +kernel
theorem dX1_countUnionsOf_21 : decode cX1_countUnionsOf 21 = .ok (.iinc 2 1, 3) := by decide +kernel
theorem dX1_countUnionsOf_24 : decode cX1_countUnionsOf 24 = .ok (.iinc 3 1, 3) := by decide +kernel
theorem dX1_countUnionsOf_27 : decode cX1_countUnionsOf 27 = .ok (.goto (-23), 3) := by decide +kernel
theorem dX1_countUnionsOf_30 : decode cX1_countUnionsOf 30 = .ok (.iload_n 2, 1) := by decide +kernel
theorem dX1_countUnionsOf_31 : decode cX1_countUnionsOf 31 = .ok (.ireturn, 1) := by decide +kernel
theorem dX1_countWithoutParents_0 : decode cX1_countWithoutParents 0 = .ok (.iconst 0, 1) := by decide +kernel
theorem dX1_countWithoutParents_1 : decode cX1_countWithoutParents 1 = .ok (.istore_n 1, 1) := by decide +kernel
theorem dX1_countWithoutParents_2 : decode cX1_countWithoutParents 2 = .ok (.iconst 0, 1) := by decide +kernel
theorem dX1_countWithoutParents_3 : decode cX1_countWithoutParents 3 = .ok (.istore_n 2, 1) := by decide +kernel
theorem dX1_countWithoutParents_4 : decode cX1_countWithoutParents 4 = .ok (.iload_n 2, 1) := by decide +kernel
theorem dX1_countWithoutParents_5 : decode cX1_countWithoutParents 5 = .ok (.aload_n 0, 1) := by decide +kernel
theorem dX1_countWithoutParents_6 : decode cX1_countWithoutParents 6 = .ok (.getfield 45, 3) := by decide +kernel
theorem dX1_countWithoutParents_9 : decode cX1_countWithoutParents 9 = .ok (.if_icmp .ge 20, 3) := by decide +kernel
theorem dX1_countWithoutParents_12 : decode cX1_countWithoutParents 12 = .ok (.aload_n 0, 1) := by decide +kernel
theorem dX1_countWithoutParents_13 : decode cX1_countWithoutParents 13 = .ok (.iload_n 2, 1) := by decide +kernel
theorem dX1_countWithoutParents_14 : decode cX1_countWithoutParents 14 = .ok (.invokevirtual 88, 3) := by decide +kernel
theorem dX1_countWithoutParents_17 : decode cX1_countWithoutParents 17 = .ok (.ifCond .ne 6, 3) := by decide +kernel
theorem dX1_countWithoutParents_20 : decode cX1_countWithoutParents 20 = .ok (.iinc 1 1, 3) := by decide +kernel
theorem dX1_countWithoutParents_23 : decode cX1_countWithoutParents 23 = .ok (.iinc 2 1, 3) := by decide +kernel
theorem dX1_countWithoutParents_26 : decode cX1_countWithoutParents 26 = .ok (.goto (-22), 3) := by decide +kernel
theorem dX1_countWithoutParents_29 : decode cX1_countWithoutParents 29 = .ok (.iload_n 1, 1) := by decide +kernel
theorem dX1_countWithoutParents_30 : decode cX1_countWithoutParents 30 = .ok (.ireturn, 1) := by decide +kernel
theorem dX1_countWithoutChildren_0 : decode cX1_countWithoutChildren 0 = .ok (.iconst 0, 1) := by decide +kernel
theorem dX1_countWithoutChildren_1 : decode cX1_countWithoutChildren 1 = .ok (.istore_n 1, 1) := by decide +kernel
theorem dX1_countWithoutChildren_2 : decode cX1_countWithoutChildren 2 = .ok (.iconst 0, 1) := by decide +kernel
theorem dX1_countWithoutChildren_3 : decode cX1_countWithoutChildren 3 = .ok (.istore_n 2, 1) := by decide +kernel
theorem dX1_countWithoutChildren_4 : decode cX1_countWithoutChildren 4 = .ok (.iload_n 2, 1) := by decide +kernel
theorem dX1_countWithoutChildren_5 : decode cX1_countWithoutChildren 5 = .ok (.aload_n 0, 1) := by decide +kernel
theorem dX1_countWithoutChildren_6 : decode cX1_countWithoutChildren 6 = .ok (.getfield 45, 3) := by decide +kernel
theorem dX1_countWithoutChildren_9 : decode cX1_countWithoutChildren 9 = .ok (.if_icmp .ge 20, 3) := by decide +kernel
theorem dX1_countWithoutChildren_12 : decode cX1_countWithoutChildren 12 = .ok (.aload_n 0, 1) := by decide +kernel
theorem dX1_countWithoutChildren_13 : decode cX1_countWithoutChildren 13 = .ok (.iload_n 2, 1) := by decide +kernel
theorem dX1_countWithoutChildren_14 : decode cX1_countWithoutChildren 14 = .ok (.invokevirtual 111, 3) := by decide +kernel
theorem dX1_countWithoutChildren_17 : decode cX1_countWithoutChildren 17 = .ok (.ifCond .ne 6, 3) := by decide +kernel
theorem dX1_countWithoutChildren_20 : decode cX1_countWithoutChildren 20 = .ok (.iinc 1 1, 3) := by decide +kernel
theorem dX1_countWithoutChildren_23 : decode cX1_countWithoutChildren 23 = .ok (.iinc 2 1, 3) := by decide +kernel
theorem dX1_countWithoutChildren_26 : decode cX1_countWithoutChildren 26 = .ok (.goto (-22), 3) := by decide +kernel
theorem dX1_countWithoutChildren_29 : decode cX1_countWithoutChildren 29 = .ok (.iload_n 1, 1) := by decide +kernel
theorem dX1_countWithoutChildren_30 : decode cX1_countWithoutChildren 30 = .ok (.ireturn, 1) := by decide +kernel
theorem dX2_init_0 : decode cX2_init 0 = .ok (.aload_n 0, 1) := by decide +kernel
theorem dX2_init_1 : decode cX2_init 1 = .ok (.invokespecial 5, 3) := by decide +kernel
theorem dX2_init_4 : decode cX2_init 4 = .ok (.aload_n 0, 1) := by decide +kernel
theorem dX2_init_5 : decode cX2_init 5 = .ok (.sipush 891, 3) := by decide +kernel
theorem dX2_init_8 : decode cX2_init 8 = .ok (.newarray .int, 2) := by decide +kernel
theorem dX2_init_10 : decode cX2_init 10 = .ok (.putfield 11, 3) := by decide +kernel
theorem dX2_init_13 : decode cX2_init 13 = .ok (.aload_n 0, 1) := by decide +kernel
theorem dX2_init_14 : decode cX2_init 14 = .ok (.aload_n 1, 1) := by decide +kernel
theorem dX2_init_15 : decode cX2_init 15 = .ok (.putfield 15, 3) := by decide +kernel
theorem dX2_init_18 : decode cX2_init 18 = .ok (.aload_n 0, 1) := by decide +kernel
theorem dX2_init_19 : decode cX2_init 19 = .ok (.aload_n 2, 1) := by decide +kernel
theorem dX2_init_20 : decode cX2_init 20 = .ok (.putfield 19, 3) := by decide +kernel
theorem dX2_init_23 : decode cX2_init 23 = .ok (.return_, 1) := by decide +kernel
theorem dX2_forgetAll_0 : decode cX2_forgetAll 0 = .ok (.aload_n 0, 1) := by decide +kernel
theorem dX2_forgetAll_1 : decode cX2_forgetAll 1 = .ok (.iconst 0, 1) := by decide +kernel
theorem dX2_forgetAll_2 : decode cX2_forgetAll 2 = .ok (.putfield 23, 3) := by decide +kernel
theorem dX2_forgetAll_5 : decode cX2_forgetAll 5 = .ok (.aload_n 0, 1) := by decide +kernel
theorem dX2_forgetAll_6 : decode cX2_forgetAll 6 = .ok (.iconst 0, 1) := by decide +kernel
theorem dX2_forgetAll_7 : decode cX2_forgetAll 7 = .ok (.putfield 27, 3) := by decide +kernel
theorem dX2_forgetAll_10 : decode cX2_forgetAll 10 = .ok (.return_, 1) := by decide +kernel
theorem dX2_record_0 : decode cX2_record 0 = .ok (.aload_n 0, 1) := by decide +kernel
theorem dX2_record_1 : decode cX2_record 1 = .ok (.aload_n 0, 1) := by decide +kernel
theorem dX2_record_2 : decode cX2_record 2 = .ok (.getfield 31, 3) := by decide +kernel
theorem dX2_record_5 : decode cX2_record 5 = .ok (.bipush 81, 2) := by decide +kernel
theorem dX2_record_7 : decode cX2_record 7 = .ok (.imul, 1) := by decide +kernel
theorem dX2_record_8 : decode cX2_record 8 = .ok (.invokevirtual 34, 3) := by decide +kernel
theorem dX2_record_11 : decode cX2_record 11 = .ok (.aload_n 0, 1) := by decide +kernel
theorem dX2_record_12 : decode cX2_record 12 = .ok (.aload_n 0, 1) := by decide +kernel
theorem dX2_record_13 : decode cX2_record 13 = .ok (.getfield 31, 3) := by decide +kernel
theorem dX2_record_16 : decode cX2_record 16 = .ok (.iconst 1, 1) := by decide +kernel
theorem dX2_record_17 : decode cX2_record 17 = .ok (.iadd, 1) := by decide +kernel
theorem dX2_record_18 : decode cX2_record 18 = .ok (.bipush 10, 2) := by decide +kernel
theorem dX2_record_20 : decode cX2_record 20 = .ok (.irem, 1) := by decide +kernel
theorem dX2_record_21 : decode cX2_record 21 = .ok (.putfield 31, 3) := by decide +kernel
theorem dX2_record_24 : decode cX2_record 24 = .ok (.aload_n 0, 1) := by decide +kernel
theorem dX2_record_25 : decode cX2_record 25 = .ok (.aload_n 0, 1) := by decide +kernel
theorem dX2_record_26 : decode cX2_record 26 = .ok (.getfield 23, 3) := by decide +kernel
theorem dX2_record_29 : decode cX2_record 29 = .ok (.iconst 1, 1) := by decide +kernel
theorem dX2_record_30 : decode cX2_record 30 = .ok (.iadd, 1) := by decide +kernel
theorem dX2_record_31 : decode cX2_record 31 = .ok (.bipush 10, 2) := by decide +kernel
theorem dX2_record_33 : decode cX2_record 33 = .ok (.invokestatic 38, 3) := by decide +kernel
theorem dX2_record_36 : decode cX2_record 36 = .ok (.putfield 23, 3) := by decide +kernel
theorem dX2_record_39 : decode cX2_record 39 = .ok (.return_, 1) := by decide +kernel
theorem dX2_takeBack_0 : decode cX2_takeBack 0 = .ok (.aload_n 0, 1) := by decide +kernel
theorem dX2_takeBack_1 : decode cX2_takeBack 1 = .ok (.aload_n 0, 1) := by decide +kernel
theorem dX2_takeBack_2 : decode cX2_takeBack 2 = .ok (.getfield 31, 3) := by decide +kernel
theorem dX2_takeBack_5 : decode cX2_takeBack 5 = .ok (.bipush 10, 2) := by decide +kernel
theorem dX2_takeBack_7 : decode cX2_takeBack 7 = .ok (.iadd, 1) := by decide +kernel
theorem dX2_takeBack_8 : decode cX2_takeBack 8 = .ok (.iconst 1, 1) := by decide +kernel
theorem dX2_takeBack_9 : decode cX2_takeBack 9 = .ok (.isub, 1) := by decide +kernel
theorem dX2_takeBack_10 : decode cX2_takeBack 10 = .ok (.bipush 10, 2) := by decide +kernel
theorem dX2_takeBack_12 : decode cX2_takeBack 12 = .ok (.irem, 1) := by decide +kernel
theorem dX2_takeBack_13 : decode cX2_takeBack 13 = .ok (.putfield 31, 3) := by decide +kernel
theorem dX2_takeBack_16 : decode cX2_takeBack 16 = .ok (.aload_n 0, 1) := by decide +kernel
theorem dX2_takeBack_17 : decode cX2_takeBack 17 = .ok (.dup, 1) := by decide +kernel
theorem dX2_takeBack_18 : decode cX2_takeBack 18 = .ok (.getfield 23, 3) := by decide +kernel
theorem dX2_takeBack_21 : decode cX2_takeBack 21 = .ok (.iconst 1, 1) := by decide +kernel
theorem dX2_takeBack_22 : decode cX2_takeBack 22 = .ok (.isub, 1) := by decide +kernel
theorem dX2_takeBack_23 : decode cX2_takeBack 23 = .ok (.putfield 23, 3) := by decide +kernel
theorem dX2_takeBack_26 : decode cX2_takeBack 26 = .ok (.aload_n 0, 1) := by decide +kernel
theorem dX2_takeBack_27 : decode cX2_takeBack 27 = .ok (.aload_n 0, 1) := by decide +kernel
theorem dX2_takeBack_28 : decode cX2_takeBack 28 = .ok (.getfield 31, 3) := by decide +kernel
theorem dX2_takeBack_31 : decode cX2_takeBack 31 = .ok (.bipush 81, 2) := by decide +kernel
theorem dX2_takeBack_33 : decode cX2_takeBack 33 = .ok (.imul, 1) := by decide +kernel
theorem dX2_takeBack_34 : decode cX2_takeBack 34 = .ok (.invokevirtual 44, 3) := by decide +kernel
theorem dX2_takeBack_37 : decode cX2_takeBack 37 = .ok (.return_, 1) := by decide +kernel
theorem dX2_keepSnapshot_0 : decode cX2_keepSnapshot 0 = .ok (.aload_n 0, 1) := by decide +kernel
theorem dX2_keepSnapshot_1 : decode cX2_keepSnapshot 1 = .ok (.sipush 810, 3) := by decide +kernel
theorem dX2_keepSnapshot_4 : decode cX2_keepSnapshot 4 = .ok (.invokevirtual 34, 3) := by decide +kernel
theorem dX2_keepSnapshot_7 : decode cX2_keepSnapshot 7 = .ok (.aload_n 0, 1) := by decide +kernel
theorem dX2_keepSnapshot_8 : decode cX2_keepSnapshot 8 = .ok (.iconst 1, 1) := by decide +kernel
theorem dX2_keepSnapshot_9 : decode cX2_keepSnapshot 9 = .ok (.putfield 27, 3) := by decide +kernel
theorem dX2_keepSnapshot_12 : decode cX2_keepSnapshot 12 = .ok (.return_, 1) := by decide +kernel
theorem dX2_bringSnapshot_0 : decode cX2_bringSnapshot 0 = .ok (.aload_n 0, 1) := by decide +kernel
theorem dX2_bringSnapshot_1 : decode cX2_bringSnapshot 1 = .ok (.sipush 810, 3) := by decide +kernel
theorem dX2_bringSnapshot_4 : decode cX2_bringSnapshot 4 = .ok (.invokevirtual 44, 3) := by decide +kernel
theorem dX2_bringSnapshot_7 : decode cX2_bringSnapshot 7 = .ok (.aload_n 0, 1) := by decide +kernel
theorem dX2_bringSnapshot_8 : decode cX2_bringSnapshot 8 = .ok (.iconst 0, 1) := by decide +kernel
theorem dX2_bringSnapshot_9 : decode cX2_bringSnapshot 9 = .ok (.putfield 23, 3) := by decide +kernel
theorem dX2_bringSnapshot_12 : decode cX2_bringSnapshot 12 = .ok (.return_, 1) := by decide +kernel
theorem dX2_save_0 : decode cX2_save 0 = .ok (.aload_n 0, 1) := by decide +kernel
theorem dX2_save_1 : decode cX2_save 1 = .ok (.getfield 11, 3) := by decide +kernel
theorem dX2_save_4 : decode cX2_save 4 = .ok (.iload_n 1, 1) := by decide +kernel
theorem dX2_save_5 : decode cX2_save 5 = .ok (.aload_n 0, 1) := by decide +kernel
theorem dX2_save_6 : decode cX2_save 6 = .ok (.getfield 15, 3) := by decide +kernel
theorem dX2_save_9 : decode cX2_save 9 = .ok (.getfield 47, 3) := by decide +kernel
theorem dX2_save_12 : decode cX2_save 12 = .ok (.invokestatic 52, 3) := by decide +kernel
theorem dX2_save_15 : decode cX2_save 15 = .ok (.iload_n 1, 1) := by decide +kernel
theorem dX2_save_16 : decode cX2_save 16 = .ok (.iconst 1, 1) := by decide +kernel
theorem dX2_save_17 : decode cX2_save 17 = .ok (.iadd, 1) := by decide +kernel
theorem dX2_save_18 : decode cX2_save 18 = .ok (.istore_n 2, 1) := by decide +kernel
theorem dX2_save_19 : decode cX2_save 19 = .ok (.aload_n 0, 1) := by decide +kernel
theorem dX2_save_20 : decode cX2_save 20 = .ok (.getfield 15, 3) := by decide +kernel
theorem dX2_save_23 : decode cX2_save 23 = .ok (.getfield 56, 3) := by decide +kernel
theorem dX2_save_26 : decode cX2_save 26 = .ok (.iconst 0, 1) := by decide +kernel
theorem dX2_save_27 : decode cX2_save 27 = .ok (.aload_n 0, 1) := by decide +kernel
theorem dX2_save_28 : decode cX2_save 28 = .ok (.getfield 11, 3) := by decide +kernel
theorem dX2_save_31 : decode cX2_save 31 = .ok (.iload_n 2, 1) := by decide +kernel
theorem dX2_save_32 : decode cX2_save 32 = .ok (.bipush 12, 2) := by decide +kernel
theorem dX2_save_34 : decode cX2_save 34 = .ok (.invokestatic 59, 3) := by decide +kernel
theorem dX2_save_37 : decode cX2_save 37 = .ok (.iinc 2 12, 3) := by decide +kernel
theorem dX2_save_40 : decode cX2_save 40 = .ok (.aload_n 0, 1) := by decide +kernel
theorem dX2_save_41 : decode cX2_save 41 = .ok (.getfield 15, 3) := by decide +kernel
theorem dX2_save_44 : decode cX2_save 44 = .ok (.getfield 63, 3) := by decide +kernel
theorem dX2_save_47 : decode cX2_save 47 = .ok (.iconst 0, 1) := by decide +kernel
theorem dX2_save_48 : decode cX2_save 48 = .ok (.aload_n 0, 1) := by decide +kernel
theorem dX2_save_49 : decode cX2_save 49 = .ok (.getfield 11, 3) := by decide +kernel
theorem dX2_save_52 : decode cX2_save 52 = .ok (.iload_n 2, 1) := by decide +kernel
theorem dX2_save_53 : decode cX2_save 53 = .ok (.bipush 12, 2) := by decide +kernel
theorem dX2_save_55 : decode cX2_save 55 = .ok (.invokestatic 59, 3) := by decide +kernel
theorem dX2_save_58 : decode cX2_save 58 = .ok (.iinc 2 12, 3) := by decide +kernel
theorem dX2_save_61 : decode cX2_save 61 = .ok (.aload_n 0, 1) := by decide +kernel
theorem dX2_save_62 : decode cX2_save 62 = .ok (.getfield 15, 3) := by decide +kernel
theorem dX2_save_65 : decode cX2_save 65 = .ok (.getfield 66, 3) := by decide +kernel
theorem dX2_save_68 : decode cX2_save 68 = .ok (.iconst 0, 1) := by decide +kernel
theorem dX2_save_69 : decode cX2_save 69 = .ok (.aload_n 0, 1) := by decide +kernel
theorem dX2_save_70 : decode cX2_save 70 = .ok (.getfield 11, 3) := by decide +kernel
theorem dX2_save_73 : decode cX2_save 73 = .ok (.iload_n 2, 1) := by decide +kernel
theorem dX2_save_74 : decode cX2_save 74 = .ok (.bipush 12, 2) := by decide +kernel
theorem dX2_save_76 : decode cX2_save 76 = .ok (.invokestatic 59, 3) := by decide +kernel
theorem dX2_save_79 : decode cX2_save 79 = .ok (.iinc 2 12, 3) := by decide +kernel
theorem dX2_save_82 : decode cX2_save 82 = .ok (.aload_n 0, 1) := by decide +kernel
theorem dX2_save_83 : decode cX2_save 83 = .ok (.getfield 15, 3) := by decide +kernel
theorem dX2_save_86 : decode cX2_save 86 = .ok (.getfield 69, 3) := by decide +kernel
theorem dX2_save_89 : decode cX2_save 89 = .ok (.iconst 0, 1) := by decide +kernel
theorem dX2_save_90 : decode cX2_save 90 = .ok (.aload_n 0, 1) := by decide +kernel
theorem dX2_save_91 : decode cX2_save 91 = .ok (.getfield 11, 3) := by decide +kernel
theorem dX2_save_94 : decode cX2_save 94 = .ok (.iload_n 2, 1) := by decide +kernel
theorem dX2_save_95 : decode cX2_save 95 = .ok (.bipush 16, 2) := by decide +kernel
theorem dX2_save_97 : decode cX2_save 97 = .ok (.invokestatic 59, 3) := by decide +kernel
theorem dX2_save_100 : decode cX2_save 100 = .ok (.iinc 2 16, 3) := by decide +kernel
theorem dX2_save_103 : decode cX2_save 103 = .ok (.aload_n 0, 1) := by decide +kernel
theorem dX2_save_104 : decode cX2_save 104 = .ok (.getfield 19, 3) := by decide +kernel
theorem dX2_save_107 : decode cX2_save 107 = .ok (.aload_n 0, 1) := by decide +kernel
theorem dX2_save_108 : decode cX2_save 108 = .ok (.getfield 11, 3) := by decide +kernel
theorem dX2_save_111 : decode cX2_save 111 = .ok (.iload_n 2, 1) := by decide +kernel
theorem dX2_save_112 : decode cX2_save 112 = .ok (.invokevirtual 72, 3) := by decide +kernel
theorem dX2_save_115 : decode cX2_save 115 = .ok (.return_, 1) := by decide +kernel
theorem dX2_bring_0 : decode cX2_bring 0 = .ok (.aload_n 0, 1) := by decide +kernel
theorem dX2_bring_1 : decode cX2_bring 1 = .ok (.getfield 15, 3) := by decide +kernel
theorem dX2_bring_4 : decode cX2_bring 4 = .ok (.aload_n 0, 1) := by decide +kernel
theorem dX2_bring_5 : decode cX2_bring 5 = .ok (.getfield 11, 3) := by decide +kernel
theorem dX2_bring_8 : decode cX2_bring 8 = .ok (.iload_n 1, 1) := by decide +kernel
theorem dX2_bring_9 : decode cX2_bring 9 = .ok (.invokestatic 78, 3) := by decide +kernel
theorem dX2_bring_12 : decode cX2_bring 12 = .ok (.putfield 47, 3) := by decide +kernel
theorem dX2_bring_15 : decode cX2_bring 15 = .ok (.iload_n 1, 1) := by decide +kernel
theorem dX2_bring_16 : decode cX2_bring 16 = .ok (.iconst 1, 1) := by decide +kernel
theorem dX2_bring_17 : decode cX2_bring 17 = .ok (.iadd, 1) := by decide +kernel
theorem dX2_bring_18 : decode cX2_bring 18 = .ok (.istore_n 2, 1) := by decide +kernel
theorem dX2_bring_19 : decode cX2_bring 19 = .ok (.aload_n 0, 1) := by decide +kernel
theorem dX2_bring_20 : decode cX2_bring 20 = .ok (.getfield 11, 3) := by decide +kernel
theorem dX2_bring_23 : decode cX2_bring 23 = .ok (.iload_n 2, 1) := by decide +kernel
theorem dX2_bring_24 : decode cX2_bring 24 = .ok (.aload_n 0, 1) := by decide +kernel
theorem dX2_bring_25 : decode cX2_bring 25 = .ok (.getfield 15, 3) := by decide +kernel
theorem dX2_bring_28 : decode cX2_bring 28 = .ok (.getfield 56, 3) := by decide +kernel
theorem dX2_bring_31 : decode cX2_bring 31 = .ok (.iconst 0, 1) := by decide +kernel
theorem dX2_bring_32 : decode cX2_bring 32 = .ok (.bipush 12, 2) := by decide +kernel
theorem dX2_bring_34 : decode cX2_bring 34 = .ok (.invokestatic 59, 3) := by decide +kernel
theorem dX2_bring_37 : decode cX2_bring 37 = .ok (.iinc 2 12, 3) := by decide +kernel
theorem dX2_bring_40 : decode cX2_bring 40 = .ok (.aload_n 0, 1) := by decide +kernel
theorem dX2_bring_41 : decode cX2_bring 41 = .ok (.getfield 11, 3) := by decide +kernel
theorem dX2_bring_44 : decode cX2_bring 44 = .ok (.iload_n 2, 1) := by decide +kernel
theorem dX2_bring_45 : decode cX2_bring 45 = .ok (.aload_n 0, 1) := by decide +kernel
theorem dX2_bring_46 : decode cX2_bring 46 = .ok (.getfield 15, 3) := by decide +kernel
theorem dX2_bring_49 : decode cX2_bring 49 = .ok (.getfield 63, 3) := by decide +kernel
theorem dX2_bring_52 : decode cX2_bring 52 = .ok (.iconst 0, 1) := by decide +kernel
theorem dX2_bring_53 : decode cX2_bring 53 = .ok (.bipush 12, 2) := by decide +kernel
theorem dX2_bring_55 : decode cX2_bring 55 = .ok (.invokestatic 59, 3) := by decide +kernel
theorem dX2_bring_58 : decode cX2_bring 58 = .ok (.iinc 2 12, 3) := by decide +kernel
theorem dX2_bring_61 : decode cX2_bring 61 = .ok (.aload_n 0, 1) := by decide +kernel
theorem dX2_bring_62 : decode cX2_bring 62 = .ok (.getfield 11, 3) := by decide +kernel
theorem dX2_bring_65 : decode cX2_bring 65 = .ok (.iload_n 2, 1) := by decide +kernel
theorem dX2_bring_66 : decode cX2_bring 66 = .ok (.aload_n 0, 1) := by decide +kernel
theorem dX2_bring_67 : decode cX2_bring 67 = .ok (.getfield 15, 3) := by decide +kernel
theorem dX2_bring_70 : decode cX2_bring 70 = .ok (.getfield 66, 3) := by decide +kernel
theorem dX2_bring_73 : decode cX2_bring 73 = .ok (.iconst 0, 1) := by decide +kernel
theorem dX2_bring_74 : decode cX2_bring 74 = .ok (.bipush 12, 2) := by decide +kernel
theorem dX2_bring_76 : decode cX2_bring 76 = .ok (.invokestatic 59, 3) := by decide +kernel
theorem dX2_bring_79 : decode cX2_bring 79 = .ok (.iinc 2 12, 3) := by decide +kernel
theorem dX2_bring_82 : decode cX2_bring 82 = .ok (.aload_n 0, 1) := by decide +kernel
theorem dX2_bring_83 : decode cX2_bring 83 = .ok (.getfield 11, 3) := by decide +kernel
theorem dX2_bring_86 : decode cX2_bring 86 = .ok (.iload_n 2, 1) := by decide +kernel
theorem dX2_bring_87 : decode cX2_bring 87 = .ok (.aload_n 0, 1) := by decide +kernel
theorem dX2_bring_88 : decode cX2_bring 88 = .ok (.getfield 15, 3) := by decide +kernel
theorem dX2_bring_91 : decode cX2_bring 91 = .ok (.getfield 69, 3) := by decide +kernel
theorem dX2_bring_94 : decode cX2_bring 94 = .ok (.iconst 0, 1) := by decide +kernel
theorem dX2_bring_95 : decode cX2_bring 95 = .ok (.bipush 16, 2) := by decide +kernel
theorem dX2_bring_97 : decode cX2_bring 97 = .ok (.invokestatic 59, 3) := by decide +kernel
theorem dX2_bring_100 : decode cX2_bring 100 = .ok (.iinc 2 16, 3) := by decide +kernel
theorem dX2_bring_103 : decode cX2_bring 103 = .ok (.aload_n 0, 1) := by decide +kernel
theorem dX2_bring_104 : decode cX2_bring 104 = .ok (.getfield 15, 3) := by decide +kernel
theorem dX2_bring_107 : decode cX2_bring 107 = .ok (.invokevirtual 82, 3) := by decide +kernel
theorem dX2_bring_110 : decode cX2_bring 110 = .ok (.aload_n 0, 1) := by decide +kernel
theorem dX2_bring_111 : decode cX2_bring 111 = .ok (.getfield 19, 3) := by decide +kernel
theorem dX2_bring_114 : decode cX2_bring 114 = .ok (.aload_n 0, 1) := by decide +kernel
theorem dX2_bring_115 : decode cX2_bring 115 = .ok (.getfield 11, 3) := by decide +kernel
theorem dX2_bring_118 : decode cX2_bring 118 = .ok (.iload_n 2, 1) := by decide +kernel
theorem dX2_bring_119 : decode cX2_bring 119 = .ok (.invokevirtual 85, 3) := by decide +kernel
theorem dX2_bring_122 : decode cX2_bring 122 = .ok (.return_, 1) := by decide +kernel
theorem dX3_init_0 : decode cX3_init 0 = .ok (.aload_n 0, 1) := by decide +kernel
theorem dX3_init_1 : decode cX3_init 1 = .ok (.invokespecial 3, 3) := by decide +kernel
theorem dX3_init_4 : decode cX3_init 4 = .ok (.aload_n 0, 1) := by decide +kernel
theorem dX3_init_5 : decode cX3_init 5 = .ok (.sipush 800, 3) := by decide +kernel
theorem dX3_init_8 : decode cX3_init 8 = .ok (.newarray .int, 2) := by decide +kernel
theorem dX3_init_10 : decode cX3_init 10 = .ok (.putfield 9, 3) := by decide +kernel
theorem dX3_init_13 : decode cX3_init 13 = .ok (.aload_n 0, 1) := by decide +kernel
theorem dX3_init_14 : decode cX3_init 14 = .ok (.iconst (-1), 1) := by decide +kernel
theorem dX3_init_15 : decode cX3_init 15 = .ok (.putfield 15, 3) := by decide +kernel
theorem dX3_init_18 : decode cX3_init 18 = .ok (.return_, 1) := by decide +kernel
theorem dX3_hasRoom_0 : decode cX3_hasRoom 0 = .ok (.aload_n 0, 1) := by decide +kernel
theorem dX3_hasRoom_1 : decode cX3_hasRoom 1 = .ok (.getfield 19, 3) := by decide +kernel
theorem dX3_hasRoom_4 : decode cX3_hasRoom 4 = .ok (.bipush 20, 2) := by decide +kernel
theorem dX3_hasRoom_6 : decode cX3_hasRoom 6 = .ok (.iadd, 1) := by decide +kernel
theorem dX3_hasRoom_7 : decode cX3_hasRoom 7 = .ok (.sipush 800, 3) := by decide +kernel
theorem dX3_hasRoom_10 : decode cX3_hasRoom 10 = .ok (.if_icmp .gt 7, 3) := by decide +kernel
theorem dX3_hasRoom_13 : decode cX3_hasRoom 13 = .ok (.iconst 1, 1) := by decide +kernel
theorem dX3_hasRoom_14 : decode cX3_hasRoom 14 = .ok (.goto 4, 3) := by decide +kernel
theorem dX3_hasRoom_17 : decode cX3_hasRoom 17 = .ok (.iconst 0, 1) := by decide +kernel
theorem dX3_hasRoom_18 : decode cX3_hasRoom 18 = .ok (.ireturn, 1) := by decide +kernel
theorem dX3_append_0 : decode cX3_append 0 = .ok (.bipush 24, 2) := by decide +kernel
theorem dX3_append_2 : decode cX3_append 2 = .ok (.istore_n 2, 1) := by decide +kernel
theorem dX3_append_3 : decode cX3_append 3 = .ok (.iload_n 2, 1) := by decide +kernel
theorem dX3_append_4 : decode cX3_append 4 = .ok (.ifCond .lt 37, 3) := by decide +kernel
theorem dX3_append_7 : decode cX3_append 7 = .ok (.aload_n 0, 1) := by decide +kernel
theorem dX3_append_8 : decode cX3_append 8 = .ok (.getfield 9, 3) := by decide +kernel
theorem dX3_append_11 : decode cX3_append 11 = .ok (.aload_n 0, 1) := by decide +kernel
theorem dX3_append_12 : decode cX3_append 12 = .ok (.getfield 19, 3) := by decide +kernel
theorem dX3_append_15 : decode cX3_append 15 = .ok (.iload_n 1, 1) := by decide +kernel
theorem dX3_append_16 : decode cX3_append 16 = .ok (.iload_n 2, 1) := by decide +kernel
theorem dX3_append_17 : decode cX3_append 17 = .ok (.iushr, 1) := by decide +kernel
theorem dX3_append_18 : decode cX3_append 18 = .ok (.sipush 255, 3) := by decide +kernel
theorem dX3_append_21 : decode cX3_append 21 = .ok (.iand, 1) := by decide +kernel
theorem dX3_append_22 : decode cX3_append 22 = .ok (.invokestatic 22, 3) := by decide +kernel
theorem dX3_append_25 : decode cX3_append 25 = .ok (.aload_n 0, 1) := by decide +kernel
theorem dX3_append_26 : decode cX3_append 26 = .ok (.dup, 1) := by decide +kernel
theorem dX3_append_27 : decode cX3_append 27 = .ok (.getfield 19, 3) := by decide +kernel
theorem dX3_append_30 : decode cX3_append 30 = .ok (.iconst 1, 1) := by decide +kernel
theorem dX3_append_31 : decode cX3_append 31 = .ok (.iadd, 1) := by decide +kernel
theorem dX3_append_32 : decode cX3_append 32 = .ok (.putfield 19, 3) := by decide +kernel
theorem dX3_append_35 : decode cX3_append 35 = .ok (.iinc 2 (-8), 3) := by decide +kernel
theorem dX3_append_38 : decode cX3_append 38 = .ok (.goto (-35), 3) := by decide +kernel
theorem dX3_append_41 : decode cX3_append 41 = .ok (.return_, 1) := by decide +kernel
theorem dX3_open_0 : decode cX3_open 0 = .ok (.aload_n 0, 1) := by decide +kernel
theorem dX3_open_1 : decode cX3_open 1 = .ok (.iload_n 1, 1) := by decide +kernel
theorem dX3_open_2 : decode cX3_open 2 = .ok (.putfield 26, 3) := by decide +kernel
theorem dX3_open_5 : decode cX3_open 5 = .ok (.aload_n 0, 1) := by decide +kernel
theorem dX3_open_6 : decode cX3_open 6 = .ok (.iconst 0, 1) := by decide +kernel
theorem dX3_open_7 : decode cX3_open 7 = .ok (.putfield 19, 3) := by decide +kernel
theorem dX3_open_10 : decode cX3_open 10 = .ok (.aload_n 0, 1) := by decide +kernel
theorem dX3_open_11 : decode cX3_open 11 = .ok (.iconst 0, 1) := by decide +kernel
theorem dX3_open_12 : decode cX3_open 12 = .ok (.putfield 29, 3) := by decide +kernel
theorem dX3_open_15 : decode cX3_open 15 = .ok (.aload_n 0, 1) := by decide +kernel
theorem dX3_open_16 : decode cX3_open 16 = .ok (.iconst 0, 1) := by decide +kernel
theorem dX3_open_17 : decode cX3_open 17 = .ok (.putfield 32, 3) := by decide +kernel
theorem dX3_open_20 : decode cX3_open 20 = .ok (.aload_n 0, 1) := by decide +kernel
theorem dX3_open_21 : decode cX3_open 21 = .ok (.iconst (-1), 1) := by decide +kernel
theorem dX3_open_22 : decode cX3_open 22 = .ok (.putfield 15, 3) := by decide +kernel
theorem dX3_open_25 : decode cX3_open 25 = .ok (.aload_n 0, 1) := by decide +kernel
theorem dX3_open_26 : decode cX3_open 26 = .ok (.invokevirtual 35, 3) := by decide +kernel
theorem dX3_open_29 : decode cX3_open 29 = .ok (.return_, 1) := by decide +kernel
theorem dX3_advance_0 : decode cX3_advance 0 = .ok (.aload_n 0, 1) := by decide +kernel
theorem dX3_advance_1 : decode cX3_advance 1 = .ok (.invokevirtual 38, 3) := by decide +kernel
theorem dX3_advance_4 : decode cX3_advance 4 = .ok (.ifCond .ne 4, 3) := by decide +kernel
theorem dX3_advance_7 : decode cX3_advance 7 = .ok (.return_, 1) := by decide +kernel
theorem dX3_advance_8 : decode cX3_advance 8 = .ok (.aload_n 0, 1) := by decide +kernel
theorem dX3_advance_9 : decode cX3_advance 9 = .ok (.aload_n 0, 1) := by decide +kernel
theorem dX3_advance_10 : decode cX3_advance 10 = .ok (.getfield 29, 3) := by decide +kernel
theorem dX3_advance_13 : decode cX3_advance 13 = .ok (.putfield 42, 3) := by decide +kernel
theorem dX3_advance_16 : decode cX3_advance 16 = .ok (.aload_n 0, 1) := by decide +kernel
theorem dX3_advance_17 : decode cX3_advance 17 = .ok (.getfield 42, 3) := by decide +kernel
theorem dX3_advance_20 : decode cX3_advance 20 = .ok (.aload_n 0, 1) := by decide +kernel
theorem dX3_advance_21 : decode cX3_advance 21 = .ok (.getfield 26, 3) := by decide +kernel
theorem dX3_advance_24 : decode cX3_advance 24 = .ok (.if_icmp .ge 34, 3) := by decide +kernel
theorem dX3_advance_27 : decode cX3_advance 27 = .ok (.aload_n 0, 1) := by decide +kernel
theorem dX3_advance_28 : decode cX3_advance 28 = .ok (.getfield 9, 3) := by decide +kernel
theorem dX3_advance_31 : decode cX3_advance 31 = .ok (.aload_n 0, 1) := by decide +kernel
theorem dX3_advance_32 : decode cX3_advance 32 = .ok (.getfield 42, 3) := by decide +kernel
theorem dX3_advance_35 : decode cX3_advance 35 = .ok (.invokestatic 45, 3) := by decide +kernel
theorem dX3_advance_38 : decode cX3_advance 38 = .ok (.invokestatic 49, 3) := by decide +kernel
theorem dX3_advance_41 : decode cX3_advance 41 = .ok (.iconst 4, 1) := by decide +kernel
theorem dX3_advance_42 : decode cX3_advance 42 = .ok (.if_icmp .ne 16, 3) := by decide +kernel
theorem dX3_advance_45 : decode cX3_advance 45 = .ok (.aload_n 0, 1) := by decide +kernel
theorem dX3_advance_46 : decode cX3_advance 46 = .ok (.dup, 1) := by decide +kernel
theorem dX3_advance_47 : decode cX3_advance 47 = .ok (.getfield 42, 3) := by decide +kernel
theorem dX3_advance_50 : decode cX3_advance 50 = .ok (.iconst 1, 1) := by decide +kernel
theorem dX3_advance_51 : decode cX3_advance 51 = .ok (.iadd, 1) := by decide +kernel
theorem dX3_advance_52 : decode cX3_advance 52 = .ok (.putfield 42, 3) := by decide +kernel
theorem dX3_advance_55 : decode cX3_advance 55 = .ok (.goto (-39), 3) := by decide +kernel
theorem dX3_advance_58 : decode cX3_advance 58 = .ok (.aload_n 0, 1) := by decide +kernel
theorem dX3_advance_59 : decode cX3_advance 59 = .ok (.aload_n 0, 1) := by decide +kernel
theorem dX3_advance_60 : decode cX3_advance 60 = .ok (.getfield 42, 3) := by decide +kernel
theorem dX3_advance_63 : decode cX3_advance 63 = .ok (.putfield 29, 3) := by decide +kernel
theorem dX3_advance_66 : decode cX3_advance 66 = .ok (.aload_n 0, 1) := by decide +kernel
theorem dX3_advance_67 : decode cX3_advance 67 = .ok (.iconst 0, 1) := by decide +kernel
theorem dX3_advance_68 : decode cX3_advance 68 = .ok (.putfield 53, 3) := by decide +kernel
theorem dX3_advance_71 : decode cX3_advance 71 = .ok (.aload_n 0, 1) := by decide +kernel
theorem dX3_advance_72 : decode cX3_advance 72 = .ok (.aload_n 0, 1) := by decide +kernel
theorem dX3_advance_73 : decode cX3_advance 73 = .ok (.getfield 42, 3) := by decide +kernel
theorem dX3_advance_76 : decode cX3_advance 76 = .ok (.aload_n 0, 1) := by decide +kernel
theorem dX3_advance_77 : decode cX3_advance 77 = .ok (.getfield 26, 3) := by decide +kernel
theorem dX3_advance_80 : decode cX3_advance 80 = .ok (.if_icmp .ge 20, 3) := by decide +kernel
theorem dX3_advance_83 : decode cX3_advance 83 = .ok (.aload_n 0, 1) := by decide +kernel
theorem dX3_advance_84 : decode cX3_advance 84 = .ok (.getfield 9, 3) := by decide +kernel
theorem dX3_advance_87 : decode cX3_advance 87 = .ok (.aload_n 0, 1) := by decide +kernel
theorem dX3_advance_88 : decode cX3_advance 88 = .ok (.getfield 42, 3) := by decide +kernel
theorem dX3_advance_91 : decode cX3_advance 91 = .ok (.invokestatic 45, 3) := by decide +kernel
theorem dX3_advance_94 : decode cX3_advance 94 = .ok (.invokestatic 49, 3) := by decide +kernel
theorem dX3_advance_97 : decode cX3_advance 97 = .ok (.goto 4, 3) := by decide +kernel
theorem dX3_advance_100 : decode cX3_advance 100 = .ok (.iconst 0, 1) := by decide +kernel
theorem dX3_advance_101 : decode cX3_advance 101 = .ok (.putfield 56, 3) := by decide +kernel
theorem dX3_advance_104 : decode cX3_advance 104 = .ok (.aload_n 0, 1) := by decide +kernel
theorem dX3_advance_105 : decode cX3_advance 105 = .ok (.getfield 56, 3) := by decide +kernel
theorem dX3_advance_108 : decode cX3_advance 108 = .ok (.iconst 3, 1) := by decide +kernel
theorem dX3_advance_109 : decode cX3_advance 109 = .ok (.if_icmp .ne 28, 3) := by decide +kernel
theorem dX3_advance_112 : decode cX3_advance 112 = .ok (.aload_n 0, 1) := by decide +kernel
theorem dX3_advance_113 : decode cX3_advance 113 = .ok (.aload_n 0, 1) := by decide +kernel
theorem dX3_advance_114 : decode cX3_advance 114 = .ok (.getfield 9, 3) := by decide +kernel
theorem dX3_advance_117 : decode cX3_advance 117 = .ok (.aload_n 0, 1) := by decide +kernel
theorem dX3_advance_118 : decode cX3_advance 118 = .ok (.getfield 42, 3) := by decide +kernel
theorem dX3_advance_121 : decode cX3_advance 121 = .ok (.invokestatic 45, 3) := by decide +kernel
theorem dX3_advance_124 : decode cX3_advance 124 = .ok (.putfield 53, 3) := by decide +kernel
theorem dX3_advance_127 : decode cX3_advance 127 = .ok (.aload_n 0, 1) := by decide +kernel
theorem dX3_advance_128 : decode cX3_advance 128 = .ok (.dup, 1) := by decide +kernel
theorem dX3_advance_129 : decode cX3_advance 129 = .ok (.getfield 29, 3) := by decide +kernel
theorem dX3_advance_132 : decode cX3_advance 132 = .ok (.iconst 1, 1) := by decide +kernel
theorem dX3_advance_133 : decode cX3_advance 133 = .ok (.iadd, 1) := by decide +kernel
theorem dX3_advance_134 : decode cX3_advance 134 = .ok (.putfield 29, 3) := by decide +kernel
theorem dX3_advance_137 : decode cX3_advance 137 = .ok (.aload_n 0, 1) := by decide +kernel
theorem dX3_advance_138 : decode cX3_advance 138 = .ok (.getfield 56, 3) := by decide +kernel
theorem dX3_advance_141 : decode cX3_advance 141 = .ok (.iconst 1, 1) := by decide +kernel
theorem dX3_advance_142 : decode cX3_advance 142 = .ok (.if_icmp .eq 11, 3) := by decide +kernel
theorem dX3_advance_145 : decode cX3_advance 145 = .ok (.aload_n 0, 1) := by decide +kernel
theorem dX3_advance_146 : decode cX3_advance 146 = .ok (.getfield 56, 3) := by decide +kernel
theorem dX3_advance_149 : decode cX3_advance 149 = .ok (.iconst 2, 1) := by decide +kernel
theorem dX3_advance_150 : decode cX3_advance 150 = .ok (.if_icmp .ne 91, 3) := by decide +kernel
theorem dX3_advance_153 : decode cX3_advance 153 = .ok (.aload_n 0, 1) := by decide +kernel
theorem dX3_advance_154 : decode cX3_advance 154 = .ok (.getfield 29, 3) := by decide +kernel
theorem dX3_advance_157 : decode cX3_advance 157 = .ok (.aload_n 0, 1) := by decide +kernel
theorem dX3_advance_158 : decode cX3_advance 158 = .ok (.getfield 26, 3) := by decide +kernel
theorem dX3_advance_161 : decode cX3_advance 161 = .ok (.if_icmp .ge 80, 3) := by decide +kernel
theorem dX3_advance_164 : decode cX3_advance 164 = .ok (.aload_n 0, 1) := by decide +kernel
theorem dX3_advance_165 : decode cX3_advance 165 = .ok (.getfield 9, 3) := by decide +kernel
theorem dX3_advance_168 : decode cX3_advance 168 = .ok (.aload_n 0, 1) := by decide +kernel
theorem dX3_advance_169 : decode cX3_advance 169 = .ok (.getfield 29, 3) := by decide +kernel
theorem dX3_advance_172 : decode cX3_advance 172 = .ok (.invokestatic 45, 3) := by decide +kernel
theorem dX3_advance_175 : decode cX3_advance 175 = .ok (.invokestatic 49, 3) := by decide +kernel
theorem dX3_advance_178 : decode cX3_advance 178 = .ok (.aload_n 0, 1) := by decide +kernel
theorem dX3_advance_179 : decode cX3_advance 179 = .ok (.getfield 56, 3) := by decide +kernel
theorem dX3_advance_182 : decode cX3_advance 182 = .ok (.if_icmp .ne 59, 3) := by decide +kernel
theorem dX3_advance_185 : decode cX3_advance 185 = .ok (.aload_n 0, 1) := by decide +kernel
theorem dX3_advance_186 : decode cX3_advance 186 = .ok (.aload_n 0, 1) := by decide +kernel
theorem dX3_advance_187 : decode cX3_advance 187 = .ok (.getfield 56, 3) := by decide +kernel
theorem dX3_advance_190 : decode cX3_advance 190 = .ok (.iconst 1, 1) := by decide +kernel
theorem dX3_advance_191 : decode cX3_advance 191 = .ok (.if_icmp .ne 7, 3) := by decide +kernel
theorem dX3_advance_194 : decode cX3_advance 194 = .ok (.iconst 0, 1) := by decide +kernel
theorem dX3_advance_195 : decode cX3_advance 195 = .ok (.goto 30, 3) := by decide +kernel
theorem dX3_advance_198 : decode cX3_advance 198 = .ok (.ldc 59, 2) := by decide +kernel
theorem dX3_advance_200 : decode cX3_advance 200 = .ok (.aload_n 0, 1) := by decide +kernel
theorem dX3_advance_201 : decode cX3_advance 201 = .ok (.getfield 53, 3) := by decide +kernel
theorem dX3_advance_204 : decode cX3_advance 204 = .ok (.bipush 10, 2) := by decide +kernel
theorem dX3_advance_206 : decode cX3_advance 206 = .ok (.imul, 1) := by decide +kernel
theorem dX3_advance_207 : decode cX3_advance 207 = .ok (.aload_n 0, 1) := by decide +kernel
theorem dX3_advance_208 : decode cX3_advance 208 = .ok (.getfield 9, 3) := by decide +kernel
theorem dX3_advance_211 : decode cX3_advance 211 = .ok (.aload_n 0, 1) := by decide +kernel
theorem dX3_advance_212 : decode cX3_advance 212 = .ok (.getfield 29, 3) := by decide +kernel
theorem dX3_advance_215 : decode cX3_advance 215 = .ok (.invokestatic 45, 3) := by decide +kernel
theorem dX3_advance_218 : decode cX3_advance 218 = .ok (.iadd, 1) := by decide +kernel
theorem dX3_advance_219 : decode cX3_advance 219 = .ok (.bipush 48, 2) := by decide +kernel
theorem dX3_advance_221 : decode cX3_advance 221 = .ok (.isub, 1) := by decide +kernel
theorem dX3_advance_222 : decode cX3_advance 222 = .ok (.invokestatic 60, 3) := by decide +kernel
theorem dX3_advance_225 : decode cX3_advance 225 = .ok (.putfield 53, 3) := by decide +kernel
theorem dX3_advance_228 : decode cX3_advance 228 = .ok (.aload_n 0, 1) := by decide +kernel
theorem dX3_advance_229 : decode cX3_advance 229 = .ok (.dup, 1) := by decide +kernel
theorem dX3_advance_230 : decode cX3_advance 230 = .ok (.getfield 29, 3) := by decide +kernel
theorem dX3_advance_233 : decode cX3_advance 233 = .ok (.iconst 1, 1) := by decide +kernel
theorem dX3_advance_234 : decode cX3_advance 234 = .ok (.iadd, 1) := by decide +kernel
theorem dX3_advance_235 : decode cX3_advance 235 = .ok (.putfield 29, 3) := by decide +kernel
theorem dX3_advance_238 : decode cX3_advance 238 = .ok (.goto (-101), 3) := by decide +kernel
theorem dX3_advance_241 : decode cX3_advance 241 = .ok (.return_, 1) := by decide +kernel
theorem dX3_kindOf_0 : decode cX3_kindOf 0 = .ok (.iload_n 0, 1) := by decide +kernel
theorem dX3_kindOf_1 : decode cX3_kindOf 1 = .ok (.bipush 32, 2) := by decide +kernel
theorem dX3_kindOf_3 : decode cX3_kindOf 3 = .ok (.if_icmp .eq 9, 3) := by decide +kernel
theorem dX3_kindOf_6 : decode cX3_kindOf 6 = .ok (.iload_n 0, 1) := by decide +kernel
theorem dX3_kindOf_7 : decode cX3_kindOf 7 = .ok (.bipush 10, 2) := by decide +kernel
theorem dX3_kindOf_9 : decode cX3_kindOf 9 = .ok (.if_icmp .ne 5, 3) := by decide +kernel
theorem dX3_kindOf_12 : decode cX3_kindOf 12 = .ok (.iconst 4, 1) := by decide +kernel
theorem dX3_kindOf_13 : decode cX3_kindOf 13 = .ok (.ireturn, 1) := by decide +kernel
theorem dX3_kindOf_14 : decode cX3_kindOf 14 = .ok (.iload_n 0, 1) := by decide +kernel
theorem dX3_kindOf_15 : decode cX3_kindOf 15 = .ok (.bipush 97, 2) := by decide +kernel
theorem dX3_kindOf_17 : decode cX3_kindOf 17 = .ok (.if_icmp .lt 11, 3) := by decide +kernel
theorem dX3_kindOf_20 : decode cX3_kindOf 20 = .ok (.iload_n 0, 1) := by decide +kernel
theorem dX3_kindOf_21 : decode cX3_kindOf 21 = .ok (.bipush 122, 2) := by decide +kernel
theorem dX3_kindOf_23 : decode cX3_kindOf 23 = .ok (.if_icmp .gt 5, 3) := by decide +kernel
theorem dX3_kindOf_26 : decode cX3_kindOf 26 = .ok (.iconst 1, 1) := by decide +kernel
theorem dX3_kindOf_27 : decode cX3_kindOf 27 = .ok (.ireturn, 1) := by decide +kernel
theorem dX3_kindOf_28 : decode cX3_kindOf 28 = .ok (.iload_n 0, 1) := by decide +kernel
theorem dX3_kindOf_29 : decode cX3_kindOf 29 = .ok (.bipush 48, 2) := by decide +kernel
theorem dX3_kindOf_31 : decode cX3_kindOf 31 = .ok (.if_icmp .lt 13, 3) := by decide +kernel
theorem dX3_kindOf_34 : decode cX3_kindOf 34 = .ok (.iload_n 0, 1) := by decide +kernel
theorem dX3_kindOf_35 : decode cX3_kindOf 35 = .ok (.bipush 57, 2) := by decide +kernel
theorem dX3_kindOf_37 : decode cX3_kindOf 37 = .ok (.if_icmp .gt 7, 3) := by decide +kernel
theorem dX3_kindOf_40 : decode cX3_kindOf 40 = .ok (.iconst 2, 1) := by decide +kernel
theorem dX3_kindOf_41 : decode cX3_kindOf 41 = .ok (.goto 4, 3) := by decide +kernel
theorem dX3_kindOf_44 : decode cX3_kindOf 44 = .ok (.iconst 3, 1) := by decide +kernel
theorem dX3_kindOf_45 : decode cX3_kindOf 45 = .ok (.ireturn, 1) := by decide +kernel
theorem dX3_isFine_0 : decode cX3_isFine 0 = .ok (.aload_n 0, 1) := by decide +kernel
theorem dX3_isFine_1 : decode cX3_isFine 1 = .ok (.getfield 32, 3) := by decide +kernel
theorem dX3_isFine_4 : decode cX3_isFine 4 = .ok (.ifCond .ne 7, 3) := by decide +kernel
theorem dX3_isFine_7 : decode cX3_isFine 7 = .ok (.iconst 1, 1) := by decide +kernel
theorem dX3_isFine_8 : decode cX3_isFine 8 = .ok (.goto 4, 3) := by decide +kernel
theorem dX3_isFine_11 : decode cX3_isFine 11 = .ok (.iconst 0, 1) := by decide +kernel
theorem dX3_isFine_12 : decode cX3_isFine 12 = .ok (.ireturn, 1) := by decide +kernel
theorem dX3_fail_0 : decode cX3_fail 0 = .ok (.aload_n 0, 1) := by decide +kernel
theorem dX3_fail_1 : decode cX3_fail 1 = .ok (.getfield 32, 3) := by decide +kernel
theorem dX3_fail_4 : decode cX3_fail 4 = .ok (.ifCond .ne 16, 3) := by decide +kernel
theorem dX3_fail_7 : decode cX3_fail 7 = .ok (.aload_n 0, 1) := by decide +kernel
theorem dX3_fail_8 : decode cX3_fail 8 = .ok (.iload_n 1, 1) := by decide +kernel
theorem dX3_fail_9 : decode cX3_fail 9 = .ok (.putfield 32, 3) := by decide +kernel
theorem dX3_fail_12 : decode cX3_fail 12 = .ok (.aload_n 0, 1) := by decide +kernel
theorem dX3_fail_13 : decode cX3_fail 13 = .ok (.aload_n 0, 1) := by decide +kernel
theorem dX3_fail_14 : decode cX3_fail 14 = .ok (.getfield 42, 3) := by decide +kernel
theorem dX3_fail_17 : decode cX3_fail 17 = .ok (.putfield 15, 3) := by decide +kernel
theorem dX3_fail_20 : decode cX3_fail 20 = .ok (.return_, 1) := by decide +kernel
theorem dX3_wordLength_0 : decode cX3_wordLength 0 = .ok (.aload_n 0, 1) := by decide +kernel
theorem dX3_wordLength_1 : decode cX3_wordLength 1 = .ok (.getfield 56, 3) := by decide +kernel
theorem dX3_wordLength_4 : decode cX3_wordLength 4 = .ok (.iconst 1, 1) := by decide +kernel
theorem dX3_wordLength_5 : decode cX3_wordLength 5 = .ok (.if_icmp .ne 15, 3) := by decide +kernel
theorem dX3_wordLength_8 : decode cX3_wordLength 8 = .ok (.aload_n 0, 1) := by decide +kernel
theorem dX3_wordLength_9 : decode cX3_wordLength 9 = .ok (.getfield 29, 3) := by decide +kernel
theorem dX3_wordLength_12 : decode cX3_wordLength 12 = .ok (.aload_n 0, 1) := by decide +kernel
theorem dX3_wordLength_13 : decode cX3_wordLength 13 = .ok (.getfield 42, 3) := by decide +kernel
theorem dX3_wordLength_16 : decode cX3_wordLength 16 = .ok (.isub, 1) := by decide +kernel
theorem dX3_wordLength_17 : decode cX3_wordLength 17 = .ok (.goto 4, 3) := by decide +kernel
theorem dX3_wordLength_20 : decode cX3_wordLength 20 = .ok (.iconst 0, 1) := by decide +kernel
theorem dX3_wordLength_21 : decode cX3_wordLength 21 = .ok (.ireturn, 1) := by decide +kernel
theorem dX3_letter_0 : decode cX3_letter 0 = .ok (.aload_n 0, 1) := by decide +kernel
theorem dX3_letter_1 : decode cX3_letter 1 = .ok (.getfield 9, 3) := by decide +kernel
theorem dX3_letter_4 : decode cX3_letter 4 = .ok (.aload_n 0, 1) := by decide +kernel
theorem dX3_letter_5 : decode cX3_letter 5 = .ok (.getfield 42, 3) := by decide +kernel
theorem dX3_letter_8 : decode cX3_letter 8 = .ok (.iload_n 1, 1) := by decide +kernel
theorem dX3_letter_9 : decode cX3_letter 9 = .ok (.iadd, 1) := by decide +kernel
theorem dX3_letter_10 : decode cX3_letter 10 = .ok (.invokestatic 45, 3) := by decide +kernel
theorem dX3_letter_13 : decode cX3_letter 13 = .ok (.ireturn, 1) := by decide +kernel
theorem dX3_isWord_0 : decode cX3_isWord 0 = .ok (.aload_n 0, 1) := by decide +kernel
theorem dX3_isWord_1 : decode cX3_isWord 1 = .ok (.getfield 56, 3) := by decide +kernel
theorem dX3_isWord_4 : decode cX3_isWord 4 = .ok (.iconst 1, 1) := by decide +kernel
theorem dX3_isWord_5 : decode cX3_isWord 5 = .ok (.if_icmp .ne 19, 3) := by decide +kernel
theorem dX3_isWord_8 : decode cX3_isWord 8 = .ok (.aload_n 1, 1) := by decide +kernel
theorem dX3_isWord_9 : decode cX3_isWord 9 = .ok (.invokevirtual 66, 3) := by decide +kernel
theorem dX3_isWord_12 : decode cX3_isWord 12 = .ok (.aload_n 0, 1) := by decide +kernel
theorem dX3_isWord_13 : decode cX3_isWord 13 = .ok (.getfield 29, 3) := by decide +kernel
theorem dX3_isWord_16 : decode cX3_isWord 16 = .ok (.aload_n 0, 1) := by decide +kernel
theorem dX3_isWord_17 : decode cX3_isWord 17 = .ok (.getfield 42, 3) := by decide +kernel
theorem dX3_isWord_20 : decode cX3_isWord 20 = .ok (.isub, 1) := by decide +kernel
theorem dX3_isWord_21 : decode cX3_isWord 21 = .ok (.if_icmp .eq 5, 3) := by decide +kernel
theorem dX3_isWord_24 : decode cX3_isWord 24 = .ok (.iconst 0, 1) := by decide +kernel
theorem dX3_isWord_25 : decode cX3_isWord 25 = .ok (.ireturn, 1) := by decide +kernel
theorem dX3_isWord_26 : decode cX3_isWord 26 = .ok (.iconst 0, 1) := by decide +kernel
theorem dX3_isWord_27 : decode cX3_isWord 27 = .ok (.istore_n 2, 1) := by decide +kernel
theorem dX3_isWord_28 : decode cX3_isWord 28 = .ok (.iload_n 2, 1) := by decide +kernel
theorem dX3_isWord_29 : decode cX3_isWord 29 = .ok (.aload_n 1, 1) := by decide +kernel
theorem dX3_isWord_30 : decode cX3_isWord 30 = .ok (.invokevirtual 66, 3) := by decide +kernel
theorem dX3_isWord_33 : decode cX3_isWord 33 = .ok (.if_icmp .ge 32, 3) := by decide +kernel
theorem dX3_isWord_36 : decode cX3_isWord 36 = .ok (.aload_n 1, 1) := by decide +kernel
theorem dX3_isWord_37 : decode cX3_isWord 37 = .ok (.iload_n 2, 1) := by decide +kernel
theorem dX3_isWord_38 : decode cX3_isWord 38 = .ok (.invokevirtual 71, 3) := by decide +kernel
theorem dX3_isWord_41 : decode cX3_isWord 41 = .ok (.aload_n 0, 1) := by decide +kernel
theorem dX3_isWord_42 : decode cX3_isWord 42 = .ok (.getfield 9, 3) := by decide +kernel
theorem dX3_isWord_45 : decode cX3_isWord 45 = .ok (.aload_n 0, 1) := by decide +kernel
theorem dX3_isWord_46 : decode cX3_isWord 46 = .ok (.getfield 42, 3) := by decide +kernel
theorem dX3_isWord_49 : decode cX3_isWord 49 = .ok (.iload_n 2, 1) := by decide +kernel
theorem dX3_isWord_50 : decode cX3_isWord 50 = .ok (.iadd, 1) := by decide +kernel
theorem dX3_isWord_51 : decode cX3_isWord 51 = .ok (.invokestatic 45, 3) := by decide +kernel
theorem dX3_isWord_54 : decode cX3_isWord 54 = .ok (.if_icmp .eq 5, 3) := by decide +kernel
theorem dX3_isWord_57 : decode cX3_isWord 57 = .ok (.iconst 0, 1) := by decide +kernel
theorem dX3_isWord_58 : decode cX3_isWord 58 = .ok (.ireturn, 1) := by decide +kernel
theorem dX3_isWord_59 : decode cX3_isWord 59 = .ok (.iinc 2 1, 3) := by decide +kernel
theorem dX3_isWord_62 : decode cX3_isWord 62 = .ok (.goto (-34), 3) := by decide +kernel
theorem dX3_isWord_65 : decode cX3_isWord 65 = .ok (.iconst 1, 1) := by decide +kernel
theorem dX3_isWord_66 : decode cX3_isWord 66 = .ok (.ireturn, 1) := by decide +kernel
theorem dX3_isSpelled_0 : decode cX3_isSpelled 0 = .ok (.aload_n 0, 1) := by decide +kernel
theorem dX3_isSpelled_1 : decode cX3_isSpelled 1 = .ok (.getfield 56, 3) := by decide +kernel
theorem dX3_isSpelled_4 : decode cX3_isSpelled 4 = .ok (.iconst 1, 1) := by decide +kernel
theorem dX3_isSpelled_5 : decode cX3_isSpelled 5 = .ok (.if_icmp .ne 16, 3) := by decide +kernel
theorem dX3_isSpelled_8 : decode cX3_isSpelled 8 = .ok (.iload_n 3, 1) := by decide +kernel
theorem dX3_isSpelled_9 : decode cX3_isSpelled 9 = .ok (.aload_n 0, 1) := by decide +kernel
theorem dX3_isSpelled_10 : decode cX3_isSpelled 10 = .ok (.getfield 29, 3) := by decide +kernel
theorem dX3_isSpelled_13 : decode cX3_isSpelled 13 = .ok (.aload_n 0, 1) := by decide +kernel
theorem dX3_isSpelled_14 : decode cX3_isSpelled 14 = .ok (.getfield 42, 3) := by decide +kernel
theorem dX3_isSpelled_17 : decode cX3_isSpelled 17 = .ok (.isub, 1) := by decide +kernel
theorem dX3_isSpelled_18 : decode cX3_isSpelled 18 = .ok (.if_icmp .eq 5, 3) := by decide +kernel
theorem dX3_isSpelled_21 : decode cX3_isSpelled 21 = .ok (.iconst 0, 1) := by decide +kernel
theorem dX3_isSpelled_22 : decode cX3_isSpelled 22 = .ok (.ireturn, 1) := by decide +kernel
theorem dX3_isSpelled_23 : decode cX3_isSpelled 23 = .ok (.iconst 0, 1) := by decide +kernel
theorem dX3_isSpelled_24 : decode cX3_isSpelled 24 = .ok (.istore 4, 2) := by decide +kernel
theorem dX3_isSpelled_26 : decode cX3_isSpelled 26 = .ok (.iload 4, 2) := by decide +kernel
theorem dX3_isSpelled_28 : decode cX3_isSpelled 28 = .ok (.iload_n 3, 1) := by decide +kernel
theorem dX3_isSpelled_29 : decode cX3_isSpelled 29 = .ok (.if_icmp .ge 36, 3) := by decide +kernel
theorem dX3_isSpelled_32 : decode cX3_isSpelled 32 = .ok (.aload_n 1, 1) := by decide +kernel
theorem dX3_isSpelled_33 : decode cX3_isSpelled 33 = .ok (.iload_n 2, 1) := by decide +kernel
theorem dX3_isSpelled_34 : decode cX3_isSpelled 34 = .ok (.iload 4, 2) := by decide +kernel
theorem dX3_isSpelled_36 : decode cX3_isSpelled 36 = .ok (.iadd, 1) := by decide +kernel
theorem dX3_isSpelled_37 : decode cX3_isSpelled 37 = .ok (.invokestatic 45, 3) := by decide +kernel
theorem dX3_isSpelled_40 : decode cX3_isSpelled 40 = .ok (.aload_n 0, 1) := by decide +kernel
theorem dX3_isSpelled_41 : decode cX3_isSpelled 41 = .ok (.getfield 9, 3) := by decide +kernel
theorem dX3_isSpelled_44 : decode cX3_isSpelled 44 = .ok (.aload_n 0, 1) := by decide +kernel
theorem dX3_isSpelled_45 : decode cX3_isSpelled 45 = .ok (.getfield 42, 3) := by decide +kernel
theorem dX3_isSpelled_48 : decode cX3_isSpelled 48 = .ok (.iload 4, 2) := by decide +kernel
theorem dX3_isSpelled_50 : decode cX3_isSpelled 50 = .ok (.iadd, 1) := by decide +kernel
theorem dX3_isSpelled_51 : decode cX3_isSpelled 51 = .ok (.invokestatic 45, 3) := by decide +kernel
theorem dX3_isSpelled_54 : decode cX3_isSpelled 54 = .ok (.if_icmp .eq 5, 3) := by decide +kernel
theorem dX3_isSpelled_57 : decode cX3_isSpelled 57 = .ok (.iconst 0, 1) := by decide +kernel
theorem dX3_isSpelled_58 : decode cX3_isSpelled 58 = .ok (.ireturn, 1) := by decide +kernel
theorem dX3_isSpelled_59 : decode cX3_isSpelled 59 = .ok (.iinc 4 1, 3) := by decide +kernel
theorem dX3_isSpelled_62 : decode cX3_isSpelled 62 = .ok (.goto (-36), 3) := by decide +kernel
theorem dX3_isSpelled_65 : decode cX3_isSpelled 65 = .ok (.iconst 1, 1) := by decide +kernel
theorem dX3_isSpelled_66 : decode cX3_isSpelled 66 = .ok (.ireturn, 1) := by decide +kernel
theorem dX3_isSign_0 : decode cX3_isSign 0 = .ok (.aload_n 0, 1) := by decide +kernel
theorem dX3_isSign_1 : decode cX3_isSign 1 = .ok (.getfield 56, 3) := by decide +kernel
theorem dX3_isSign_4 : decode cX3_isSign 4 = .ok (.iconst 3, 1) := by decide +kernel
theorem dX3_isSign_5 : decode cX3_isSign 5 = .ok (.if_icmp .ne 15, 3) := by decide +kernel
theorem dX3_isSign_8 : decode cX3_isSign 8 = .ok (.aload_n 0, 1) := by decide +kernel
theorem dX3_isSign_9 : decode cX3_isSign 9 = .ok (.getfield 53, 3) := by decide +kernel
theorem dX3_isSign_12 : decode cX3_isSign 12 = .ok (.iload_n 1, 1) := by decide +kernel
theorem dX3_isSign_13 : decode cX3_isSign 13 = .ok (.if_icmp .ne 7, 3) := by decide +kernel
theorem dX3_isSign_16 : decode cX3_isSign 16 = .ok (.iconst 1, 1) := by decide +kernel
theorem dX3_isSign_17 : decode cX3_isSign 17 = .ok (.goto 4, 3) := by decide +kernel
theorem dX3_isSign_20 : decode cX3_isSign 20 = .ok (.iconst 0, 1) := by decide +kernel
theorem dX3_isSign_21 : decode cX3_isSign 21 = .ok (.ireturn, 1) := by decide +kernel
theorem dX4_init_0 : decode cX4_init 0 = .ok (.aload_n 0, 1) := by decide +kernel
theorem dX4_init_1 : decode cX4_init 1 = .ok (.invokespecial 3, 3) := by decide +kernel
theorem dX4_init_4 : decode cX4_init 4 = .ok (.aload_n 0, 1) := by decide +kernel
theorem dX4_init_5 : decode cX4_init 5 = .ok (.sipush 400, 3) := by decide +kernel
theorem dX4_init_8 : decode cX4_init 8 = .ok (.newarray .int, 2) := by decide +kernel
theorem dX4_init_10 : decode cX4_init 10 = .ok (.putfield 9, 3) := by decide +kernel
theorem dX4_init_13 : decode cX4_init 13 = .ok (.aload_n 0, 1) := by decide +kernel
theorem dX4_init_14 : decode cX4_init 14 = .ok (.sipush 400, 3) := by decide +kernel
theorem dX4_init_17 : decode cX4_init 17 = .ok (.putfield 15, 3) := by decide +kernel
theorem dX4_init_20 : decode cX4_init 20 = .ok (.aload_n 0, 1) := by decide +kernel
theorem dX4_init_21 : decode cX4_init 21 = .ok (.sipush 200, 3) := by decide +kernel
theorem dX4_init_24 : decode cX4_init 24 = .ok (.newarray .int, 2) := by decide +kernel
theorem dX4_init_26 : decode cX4_init 26 = .ok (.putfield 19, 3) := by decide +kernel
theorem dX4_init_29 : decode cX4_init 29 = .ok (.aload_n 0, 1) := by decide +kernel
theorem dX4_init_30 : decode cX4_init 30 = .ok (.aload_n 1, 1) := by decide +kernel
theorem dX4_init_31 : decode cX4_init 31 = .ok (.putfield 22, 3) := by decide +kernel
theorem dX4_init_34 : decode cX4_init 34 = .ok (.aload_n 0, 1) := by decide +kernel
theorem dX4_init_35 : decode cX4_init 35 = .ok (.aload_n 2, 1) := by decide +kernel
theorem dX4_init_36 : decode cX4_init 36 = .ok (.putfield 26, 3) := by decide +kernel
theorem dX4_init_39 : decode cX4_init 39 = .ok (.aload_n 0, 1) := by decide +kernel
theorem dX4_init_40 : decode cX4_init 40 = .ok (.aload_n 3, 1) := by decide +kernel
theorem dX4_init_41 : decode cX4_init 41 = .ok (.putfield 30, 3) := by decide +kernel
theorem dX4_init_44 : decode cX4_init 44 = .ok (.return_, 1) := by decide +kernel
theorem dX4_printLine_0 : decode cX4_printLine 0 = .ok (.aload_n 0, 1) := by decide +kernel
theorem dX4_printLine_1 : decode cX4_printLine 1 = .ok (.invokevirtual 34, 3) := by decide +kernel
theorem dX4_printLine_4 : decode cX4_printLine 4 = .ok (.iload_n 1, 1) := by decide +kernel
theorem dX4_printLine_5 : decode cX4_printLine 5 = .ok (.iconst 3, 1) := by decide +kernel
theorem dX4_printLine_6 : decode cX4_printLine 6 = .ok (.idiv, 1) := by decide +kernel
theorem dX4_printLine_7 : decode cX4_printLine 7 = .ok (.istore_n 2, 1) := by decide +kernel
theorem dX4_printLine_8 : decode cX4_printLine 8 = .ok (.iload_n 1, 1) := by decide +kernel
theorem dX4_printLine_9 : decode cX4_printLine 9 = .ok (.iconst 3, 1) := by decide +kernel
theorem dX4_printLine_10 : decode cX4_printLine 10 = .ok (.irem, 1) := by decide +kernel
theorem dX4_printLine_11 : decode cX4_printLine 11 = .ok (.lookupswitch 41 #[(0, 25), (1, 33)], 25) := by decide +kernel
theorem dX4_printLine_36 : decode cX4_printLine 36 = .ok (.aload_n 0, 1) := by decide +kernel
theorem dX4_printLine_37 : decode cX4_printLine 37 = .ok (.iload_n 2, 1) := by decide +kernel
theorem dX4_printLine_38 : decode cX4_printLine 38 = .ok (.invokevirtual 37, 3) := by decide +kernel
theorem dX4_printLine_41 : decode cX4_printLine 41 = .ok (.goto 18, 3) := by decide +kernel
theorem dX4_printLine_44 : decode cX4_printLine 44 = .ok (.aload_n 0, 1) := by decide +kernel
theorem dX4_printLine_45 : decode cX4_printLine 45 = .ok (.iload_n 2, 1) := by decide +kernel
theorem dX4_printLine_46 : decode cX4_printLine 46 = .ok (.invokevirtual 41, 3) := by decide +kernel
theorem dX4_printLine_49 : decode cX4_printLine 49 = .ok (.goto 10, 3) := by decide +kernel
theorem dX4_printLine_52 : decode cX4_printLine 52 = .ok (.aload_n 0, 1) := by decide +kernel
theorem dX4_printLine_53 : decode cX4_printLine 53 = .ok (.iload_n 2, 1) := by decide +kernel
theorem dX4_printLine_54 : decode cX4_printLine 54 = .ok (.iconst 1, 1) := by decide +kernel
theorem dX4_printLine_55 : decode cX4_printLine 55 = .ok (.iadd, 1) := by decide +kernel
theorem dX4_printLine_56 : decode cX4_printLine 56 = .ok (.invokevirtual 44, 3) := by decide +kernel
theorem dX4_printLine_59 : decode cX4_printLine 59 = .ok (.return_, 1) := by decide +kernel
theorem dX4_clearLine_0 : decode cX4_clearLine 0 = .ok (.iconst 0, 1) := by decide +kernel
theorem dX4_clearLine_1 : decode cX4_clearLine 1 = .ok (.istore_n 1, 1) := by decide +kernel
theorem dX4_clearLine_2 : decode cX4_clearLine 2 = .ok (.iload_n 1, 1) := by decide +kernel
theorem dX4_clearLine_3 : decode cX4_clearLine 3 = .ok (.aload_n 0, 1) := by decide +kernel
theorem dX4_clearLine_4 : decode cX4_clearLine 4 = .ok (.getfield 15, 3) := by decide +kernel
theorem dX4_clearLine_7 : decode cX4_clearLine 7 = .ok (.if_icmp .ge 19, 3) := by decide +kernel
theorem dX4_clearLine_10 : decode cX4_clearLine 10 = .ok (.aload_n 0, 1) := by decide +kernel
theorem dX4_clearLine_11 : decode cX4_clearLine 11 = .ok (.getfield 9, 3) := by decide +kernel
theorem dX4_clearLine_14 : decode cX4_clearLine 14 = .ok (.iload_n 1, 1) := by decide +kernel
theorem dX4_clearLine_15 : decode cX4_clearLine 15 = .ok (.bipush 32, 2) := by decide +kernel
theorem dX4_clearLine_17 : decode cX4_clearLine 17 = .ok (.invokestatic 47, 3) := by decide +kernel
theorem dX4_clearLine_20 : decode cX4_clearLine 20 = .ok (.iinc 1 1, 3) := by decide +kernel
theorem dX4_clearLine_23 : decode cX4_clearLine 23 = .ok (.goto (-21), 3) := by decide +kernel
theorem dX4_clearLine_26 : decode cX4_clearLine 26 = .ok (.aload_n 0, 1) := by decide +kernel
theorem dX4_clearLine_27 : decode cX4_clearLine 27 = .ok (.iconst 0, 1) := by decide +kernel
theorem dX4_clearLine_28 : decode cX4_clearLine 28 = .ok (.putfield 15, 3) := by decide +kernel
theorem dX4_clearLine_31 : decode cX4_clearLine 31 = .ok (.return_, 1) := by decide +kernel
theorem dX4_printByte_0 : decode cX4_printByte 0 = .ok (.aload_n 0, 1) := by decide +kernel
theorem dX4_printByte_1 : decode cX4_printByte 1 = .ok (.getfield 9, 3) := by decide +kernel
theorem dX4_printByte_4 : decode cX4_printByte 4 = .ok (.iload_n 1, 1) := by decide +kernel
theorem dX4_printByte_5 : decode cX4_printByte 5 = .ok (.iload_n 2, 1) := by decide +kernel
theorem dX4_printByte_6 : decode cX4_printByte 6 = .ok (.invokestatic 47, 3) := by decide +kernel
theorem dX4_printByte_9 : decode cX4_printByte 9 = .ok (.aload_n 0, 1) := by decide +kernel
theorem dX4_printByte_10 : decode cX4_printByte 10 = .ok (.aload_n 0, 1) := by decide +kernel
theorem dX4_printByte_11 : decode cX4_printByte 11 = .ok (.getfield 15, 3) := by decide +kernel
theorem dX4_printByte_14 : decode cX4_printByte 14 = .ok (.iload_n 1, 1) := by decide +kernel
theorem dX4_printByte_15 : decode cX4_printByte 15 = .ok (.iconst 1, 1) := by decide +kernel
theorem dX4_printByte_16 : decode cX4_printByte 16 = .ok (.iadd, 1) := by decide +kernel
theorem dX4_printByte_17 : decode cX4_printByte 17 = .ok (.sipush 400, 3) := by decide +kernel
theorem dX4_printByte_20 : decode cX4_printByte 20 = .ok (.invokestatic 51, 3) := by decide +kernel
theorem dX4_printByte_23 : decode cX4_printByte 23 = .ok (.invokestatic 57, 3) := by decide +kernel
theorem dX4_printByte_26 : decode cX4_printByte 26 = .ok (.putfield 15, 3) := by decide +kernel
theorem dX4_printByte_29 : decode cX4_printByte 29 = .ok (.return_, 1) := by decide +kernel
theorem dX4_printBoxes_0 : decode cX4_printBoxes 0 = .ok (.iconst 0, 1) := by decide +kernel
theorem dX4_printBoxes_1 : decode cX4_printBoxes 1 = .ok (.istore_n 2, 1) := by decide +kernel
theorem dX4_printBoxes_2 : decode cX4_printBoxes 2 = .ok (.iload_n 2, 1) := by decide +kernel
theorem dX4_printBoxes_3 : decode cX4_printBoxes 3 = .ok (.aload_n 0, 1) := by decide +kernel
theorem dX4_printBoxes_4 : decode cX4_printBoxes 4 = .ok (.getfield 26, 3) := by decide +kernel
theorem dX4_printBoxes_7 : decode cX4_printBoxes 7 = .ok (.iload_n 1, 1) := by decide +kernel
theorem dX4_printBoxes_8 : decode cX4_printBoxes 8 = .ok (.invokevirtual 60, 3) := by decide +kernel
theorem dX4_printBoxes_11 : decode cX4_printBoxes 11 = .ok (.if_icmp .ge 22, 3) := by decide +kernel
theorem dX4_printBoxes_14 : decode cX4_printBoxes 14 = .ok (.aload_n 0, 1) := by decide +kernel
theorem dX4_printBoxes_15 : decode cX4_printBoxes 15 = .ok (.aload_n 0, 1) := by decide +kernel
theorem dX4_printBoxes_16 : decode cX4_printBoxes 16 = .ok (.getfield 26, 3) := by decide +kernel
theorem dX4_printBoxes_19 : decode cX4_printBoxes 19 = .ok (.iload_n 1, 1) := by decide +kernel
theorem dX4_printBoxes_20 : decode cX4_printBoxes 20 = .ok (.iload_n 2, 1) := by decide +kernel
theorem dX4_printBoxes_21 : decode cX4_printBoxes 21 = .ok (.invokevirtual 66, 3) := by decide +kernel
theorem dX4_printBoxes_24 : decode cX4_printBoxes 24 = .ok (.invokevirtual 69, 3) := by decide +kernel
theorem dX4_printBoxes_27 : decode cX4_printBoxes 27 = .ok (.iinc 2 1, 3) := by decide +kernel
theorem dX4_printBoxes_30 : decode cX4_printBoxes 30 = .ok (.goto (-28), 3) := by decide +kernel
theorem dX4_printBoxes_33 : decode cX4_printBoxes 33 = .ok (.return_, 1) := by decide +kernel
theorem dX4_printBox_0 : decode cX4_printBox 0 = .ok (.iload_n 1, 1) := by decide +kernel
theorem dX4_printBox_1 : decode cX4_printBox 1 = .ok (.bipush 16, 2) := by decide +kernel
theorem dX4_printBox_3 : decode cX4_printBox 3 = .ok (.if_icmp .ge 7, 3) := by decide +kernel
theorem dX4_printBox_6 : decode cX4_printBox 6 = .ok (.iconst 1, 1) := by decide +kernel
theorem dX4_printBox_7 : decode cX4_printBox 7 = .ok (.goto 4, 3) := by decide +kernel
theorem dX4_printBox_10 : decode cX4_printBox 10 = .ok (.iconst 0, 1) := by decide +kernel
theorem dX4_printBox_11 : decode cX4_printBox 11 = .ok (.istore_n 2, 1) := by decide +kernel
theorem dX4_printBox_12 : decode cX4_printBox 12 = .ok (.aload_n 0, 1) := by decide +kernel
theorem dX4_printBox_13 : decode cX4_printBox 13 = .ok (.getfield 26, 3) := by decide +kernel
theorem dX4_printBox_16 : decode cX4_printBox 16 = .ok (.iload_n 1, 1) := by decide +kernel
theorem dX4_printBox_17 : decode cX4_printBox 17 = .ok (.invokevirtual 72, 3) := by decide +kernel
theorem dX4_printBox_20 : decode cX4_printBox 20 = .ok (.istore_n 3, 1) := by decide +kernel
theorem dX4_printBox_21 : decode cX4_printBox 21 = .ok (.aload_n 0, 1) := by decide +kernel
theorem dX4_printBox_22 : decode cX4_printBox 22 = .ok (.getfield 22, 3) := by decide +kernel
theorem dX4_printBox_25 : decode cX4_printBox 25 = .ok (.getfield 75, 3) := by decide +kernel
theorem dX4_printBox_28 : decode cX4_printBox 28 = .ok (.iload_n 3, 1) := by decide +kernel
theorem dX4_printBox_29 : decode cX4_printBox 29 = .ok (.invokestatic 80, 3) := by decide +kernel
theorem dX4_printBox_32 : decode cX4_printBox 32 = .ok (.istore 4, 2) := by decide +kernel
theorem dX4_printBox_34 : decode cX4_printBox 34 = .ok (.aload_n 0, 1) := by decide +kernel
theorem dX4_printBox_35 : decode cX4_printBox 35 = .ok (.getfield 30, 3) := by decide +kernel
theorem dX4_printBox_38 : decode cX4_printBox 38 = .ok (.getfield 84, 3) := by decide +kernel
theorem dX4_printBox_41 : decode cX4_printBox 41 = .ok (.iload_n 1, 1) := by decide +kernel
theorem dX4_printBox_42 : decode cX4_printBox 42 = .ok (.invokestatic 80, 3) := by decide +kernel
theorem dX4_printBox_45 : decode cX4_printBox 45 = .ok (.istore 5, 2) := by decide +kernel
theorem dX4_printBox_47 : decode cX4_printBox 47 = .ok (.aload_n 0, 1) := by decide +kernel
theorem dX4_printBox_48 : decode cX4_printBox 48 = .ok (.iload 5, 2) := by decide +kernel
theorem dX4_printBox_50 : decode cX4_printBox 50 = .ok (.iload_n 2, 1) := by decide +kernel
theorem dX4_printBox_51 : decode cX4_printBox 51 = .ok (.ifCond .eq 8, 3) := by decide +kernel
theorem dX4_printBox_54 : decode cX4_printBox 54 = .ok (.bipush 91, 2) := by decide +kernel
theorem dX4_printBox_56 : decode cX4_printBox 56 = .ok (.goto 5, 3) := by decide +kernel
theorem dX4_printBox_59 : decode cX4_printBox 59 = .ok (.bipush 40, 2) := by decide +kernel
theorem dX4_printBox_61 : decode cX4_printBox 61 = .ok (.invokevirtual 89, 3) := by decide +kernel
theorem dX4_printBox_64 : decode cX4_printBox 64 = .ok (.iconst 0, 1) := by decide +kernel
theorem dX4_printBox_65 : decode cX4_printBox 65 = .ok (.istore 6, 2) := by decide +kernel
theorem dX4_printBox_67 : decode cX4_printBox 67 = .ok (.iload 6, 2) := by decide +kernel
theorem dX4_printBox_69 : decode cX4_printBox 69 = .ok (.iload 4, 2) := by decide +kernel
theorem dX4_printBox_71 : decode cX4_printBox 71 = .ok (.if_icmp .ge 37, 3) := by decide +kernel
theorem dX4_printBox_74 : decode cX4_printBox 74 = .ok (.aload_n 0, 1) := by decide +kernel
theorem dX4_printBox_75 : decode cX4_printBox 75 = .ok (.iload 5, 2) := by decide +kernel
theorem dX4_printBox_77 : decode cX4_printBox 77 = .ok (.iconst 1, 1) := by decide +kernel
theorem dX4_printBox_78 : decode cX4_printBox 78 = .ok (.iadd, 1) := by decide +kernel
theorem dX4_printBox_79 : decode cX4_printBox 79 = .ok (.iload 6, 2) := by decide +kernel
theorem dX4_printBox_81 : decode cX4_printBox 81 = .ok (.iadd, 1) := by decide +kernel
theorem dX4_printBox_82 : decode cX4_printBox 82 = .ok (.aload_n 0, 1) := by decide +kernel
theorem dX4_printBox_83 : decode cX4_printBox 83 = .ok (.getfield 22, 3) := by decide +kernel
theorem dX4_printBox_86 : decode cX4_printBox 86 = .ok (.getfield 93, 3) := by decide +kernel
theorem dX4_printBox_89 : decode cX4_printBox 89 = .ok (.iload_n 3, 1) := by decide +kernel
theorem dX4_printBox_90 : decode cX4_printBox 90 = .ok (.bipush 8, 2) := by decide +kernel
theorem dX4_printBox_92 : decode cX4_printBox 92 = .ok (.imul, 1) := by decide +kernel
theorem dX4_printBox_93 : decode cX4_printBox 93 = .ok (.iload 6, 2) := by decide +kernel
theorem dX4_printBox_95 : decode cX4_printBox 95 = .ok (.iadd, 1) := by decide +kernel
theorem dX4_printBox_96 : decode cX4_printBox 96 = .ok (.invokestatic 80, 3) := by decide +kernel
theorem dX4_printBox_99 : decode cX4_printBox 99 = .ok (.invokevirtual 89, 3) := by decide +kernel
theorem dX4_printBox_102 : decode cX4_printBox 102 = .ok (.iinc 6 1, 3) := by decide +kernel
theorem dX4_printBox_105 : decode cX4_printBox 105 = .ok (.goto (-38), 3) := by decide +kernel
theorem dX4_printBox_108 : decode cX4_printBox 108 = .ok (.aload_n 0, 1) := by decide +kernel
theorem dX4_printBox_109 : decode cX4_printBox 109 = .ok (.iload 5, 2) := by decide +kernel
theorem dX4_printBox_111 : decode cX4_printBox 111 = .ok (.iconst 1, 1) := by decide +kernel
theorem dX4_printBox_112 : decode cX4_printBox 112 = .ok (.iadd, 1) := by decide +kernel
theorem dX4_printBox_113 : decode cX4_printBox 113 = .ok (.iload 4, 2) := by decide +kernel
theorem dX4_printBox_115 : decode cX4_printBox 115 = .ok (.iadd, 1) := by decide +kernel
theorem dX4_printBox_116 : decode cX4_printBox 116 = .ok (.iload_n 2, 1) := by decide +kernel
theorem dX4_printBox_117 : decode cX4_printBox 117 = .ok (.ifCond .eq 8, 3) := by decide +kernel
theorem dX4_printBox_120 : decode cX4_printBox 120 = .ok (.bipush 93, 2) := by decide +kernel
theorem dX4_printBox_122 : decode cX4_printBox 122 = .ok (.goto 5, 3) := by decide +kernel
theorem dX4_printBox_125 : decode cX4_printBox 125 = .ok (.bipush 41, 2) := by decide +kernel
theorem dX4_printBox_127 : decode cX4_printBox 127 = .ok (.invokevirtual 89, 3) := by decide +kernel
theorem dX4_printBox_130 : decode cX4_printBox 130 = .ok (.return_, 1) := by decide +kernel
theorem dX4_printUnionMarks_0 : decode cX4_printUnionMarks 0 = .ok (.iconst 0, 1) := by decide +kernel
theorem dX4_printUnionMarks_1 : decode cX4_printUnionMarks 1 = .ok (.istore_n 2, 1) := by decide +kernel
theorem dX4_printUnionMarks_2 : decode cX4_printUnionMarks 2 = .ok (.iload_n 2, 1) := by decide +kernel
theorem dX4_printUnionMarks_3 : decode cX4_printUnionMarks 3 = .ok (.aload_n 0, 1) := by decide +kernel
theorem dX4_printUnionMarks_4 : decode cX4_printUnionMarks 4 = .ok (.getfield 22, 3) := by decide +kernel
theorem dX4_printUnionMarks_7 : decode cX4_printUnionMarks 7 = .ok (.getfield 96, 3) := by decide +kernel
theorem dX4_printUnionMarks_10 : decode cX4_printUnionMarks 10 = .ok (.if_icmp .ge 44, 3) := by decide +kernel
theorem dX4_printUnionMarks_13 : decode cX4_printUnionMarks 13 = .ok (.aload_n 0, 1) := by decide +kernel
theorem dX4_printUnionMarks_14 : decode cX4_printUnionMarks 14 = .ok (.getfield 22, 3) := by decide +kernel
theorem dX4_printUnionMarks_17 : decode cX4_printUnionMarks 17 = .ok (.getfield 99, 3) := by decide +kernel
theorem dX4_printUnionMarks_20 : decode cX4_printUnionMarks 20 = .ok (.iload_n 2, 1) := by decide +kernel
theorem dX4_printUnionMarks_21 : decode cX4_printUnionMarks 21 = .ok (.invokestatic 80, 3) := by decide +kernel
theorem dX4_printUnionMarks_24 : decode cX4_printUnionMarks 24 = .ok (.iload_n 1, 1) := by decide +kernel
theorem dX4_printUnionMarks_25 : decode cX4_printUnionMarks 25 = .ok (.if_icmp .ne 23, 3) := by decide +kernel
theorem dX4_printUnionMarks_28 : decode cX4_printUnionMarks 28 = .ok (.aload_n 0, 1) := by decide +kernel
theorem dX4_printUnionMarks_29 : decode cX4_printUnionMarks 29 = .ok (.aload_n 0, 1) := by decide +kernel
theorem dX4_printUnionMarks_30 : decode cX4_printUnionMarks 30 = .ok (.aload_n 0, 1) := by decide +kernel
theorem dX4_printUnionMarks_31 : decode cX4_printUnionMarks 31 = .ok (.getfield 30, 3) := by decide +kernel
theorem dX4_printUnionMarks_34 : decode cX4_printUnionMarks 34 = .ok (.iload_n 2, 1) := by decide +kernel
theorem dX4_printUnionMarks_35 : decode cX4_printUnionMarks 35 = .ok (.invokevirtual 102, 3) := by decide +kernel
theorem dX4_printUnionMarks_38 : decode cX4_printUnionMarks 38 = .ok (.invokevirtual 105, 3) := by decide +kernel
theorem dX4_printUnionMarks_41 : decode cX4_printUnionMarks 41 = .ok (.iload_n 2, 1) := by decide +kernel
theorem dX4_printUnionMarks_42 : decode cX4_printUnionMarks 42 = .ok (.invokestatic 108, 3) := by decide +kernel
theorem dX4_printUnionMarks_45 : decode cX4_printUnionMarks 45 = .ok (.invokevirtual 89, 3) := by decide +kernel
theorem dX4_printUnionMarks_48 : decode cX4_printUnionMarks 48 = .ok (.iinc 2 1, 3) := by decide +kernel
theorem dX4_printUnionMarks_51 : decode cX4_printUnionMarks 51 = .ok (.goto (-49), 3) := by decide +kernel
theorem dX4_printUnionMarks_54 : decode cX4_printUnionMarks 54 = .ok (.return_, 1) := by decide +kernel
theorem dX4_freeColumn_0 : decode cX4_freeColumn 0 = .ok (.iload_n 1, 1) := by decide +kernel
theorem dX4_freeColumn_1 : decode cX4_freeColumn 1 = .ok (.istore_n 2, 1) := by decide +kernel
theorem dX4_freeColumn_2 : decode cX4_freeColumn 2 = .ok (.iload_n 2, 1) := by decide +kernel
theorem dX4_freeColumn_3 : decode cX4_freeColumn 3 = .ok (.sipush 400, 3) := by decide +kernel
theorem dX4_freeColumn_6 : decode cX4_freeColumn 6 = .ok (.if_icmp .ge 22, 3) := by decide +kernel
theorem dX4_freeColumn_9 : decode cX4_freeColumn 9 = .ok (.aload_n 0, 1) := by decide +kernel
theorem dX4_freeColumn_10 : decode cX4_freeColumn 10 = .ok (.getfield 9, 3) := by decide +kernel
theorem dX4_freeColumn_13 : decode cX4_freeColumn 13 = .ok (.iload_n 2, 1) := by decide +kernel
theorem dX4_freeColumn_14 : decode cX4_freeColumn 14 = .ok (.invokestatic 80, 3) := by decide +kernel
theorem dX4_freeColumn_17 : decode cX4_freeColumn 17 = .ok (.bipush 32, 2) := by decide +kernel
theorem dX4_freeColumn_19 : decode cX4_freeColumn 19 = .ok (.if_icmp .eq 9, 3) := by decide +kernel
theorem dX4_freeColumn_22 : decode cX4_freeColumn 22 = .ok (.iinc 2 1, 3) := by decide +kernel
theorem dX4_freeColumn_25 : decode cX4_freeColumn 25 = .ok (.goto (-23), 3) := by decide +kernel
theorem dX4_freeColumn_28 : decode cX4_freeColumn 28 = .ok (.iload_n 2, 1) := by decide +kernel
theorem dX4_freeColumn_29 : decode cX4_freeColumn 29 = .ok (.ireturn, 1) := by decide +kernel
theorem dX4_printPersonMarks_0 : decode cX4_printPersonMarks 0 = .ok (.iconst 0, 1) := by decide +kernel
theorem dX4_printPersonMarks_1 : decode cX4_printPersonMarks 1 = .ok (.istore_n 2, 1) := by decide +kernel
theorem dX4_printPersonMarks_2 : decode cX4_printPersonMarks 2 = .ok (.iload_n 2, 1) := by decide +kernel
theorem dX4_printPersonMarks_3 : decode cX4_printPersonMarks 3 = .ok (.aload_n 0, 1) := by decide +kernel
theorem dX4_printPersonMarks_4 : decode cX4_printPersonMarks 4 = .ok (.getfield 22, 3) := by decide +kernel
theorem dX4_printPersonMarks_7 : decode cX4_printPersonMarks 7 = .ok (.getfield 111, 3) := by decide +kernel
theorem dX4_printPersonMarks_10 : decode cX4_printPersonMarks 10 = .ok (.if_icmp .ge 79, 3) := by decide +kernel
theorem dX4_printPersonMarks_13 : decode cX4_printPersonMarks 13 = .ok (.aload_n 0, 1) := by decide +kernel
theorem dX4_printPersonMarks_14 : decode cX4_printPersonMarks 14 = .ok (.getfield 30, 3) := by decide +kernel
theorem dX4_printPersonMarks_17 : decode cX4_printPersonMarks 17 = .ok (.getfield 114, 3) := by decide +kernel
theorem dX4_printPersonMarks_20 : decode cX4_printPersonMarks 20 = .ok (.iload_n 2, 1) := by decide +kernel
theorem dX4_printPersonMarks_21 : decode cX4_printPersonMarks 21 = .ok (.invokestatic 80, 3) := by decide +kernel
theorem dX4_printPersonMarks_24 : decode cX4_printPersonMarks 24 = .ok (.istore_n 3, 1) := by decide +kernel
theorem dX4_printPersonMarks_25 : decode cX4_printPersonMarks 25 = .ok (.aload_n 0, 1) := by decide +kernel
theorem dX4_printPersonMarks_26 : decode cX4_printPersonMarks 26 = .ok (.getfield 22, 3) := by decide +kernel
theorem dX4_printPersonMarks_29 : decode cX4_printPersonMarks 29 = .ok (.getfield 117, 3) := by decide +kernel
theorem dX4_printPersonMarks_32 : decode cX4_printPersonMarks 32 = .ok (.iload_n 2, 1) := by decide +kernel
theorem dX4_printPersonMarks_33 : decode cX4_printPersonMarks 33 = .ok (.invokestatic 80, 3) := by decide +kernel
theorem dX4_printPersonMarks_36 : decode cX4_printPersonMarks 36 = .ok (.iload_n 1, 1) := by decide +kernel
theorem dX4_printPersonMarks_37 : decode cX4_printPersonMarks 37 = .ok (.if_icmp .ne 46, 3) := by decide +kernel
theorem dX4_printPersonMarks_40 : decode cX4_printPersonMarks 40 = .ok (.aload_n 0, 1) := by decide +kernel
theorem dX4_printPersonMarks_41 : decode cX4_printPersonMarks 41 = .ok (.getfield 22, 3) := by decide +kernel
theorem dX4_printPersonMarks_44 : decode cX4_printPersonMarks 44 = .ok (.iload_n 2, 1) := by decide +kernel
theorem dX4_printPersonMarks_45 : decode cX4_printPersonMarks 45 = .ok (.invokevirtual 120, 3) := by decide +kernel
theorem dX4_printPersonMarks_48 : decode cX4_printPersonMarks 48 = .ok (.ifCond .eq 35, 3) := by decide +kernel
theorem dX4_printPersonMarks_51 : decode cX4_printPersonMarks 51 = .ok (.aload_n 0, 1) := by decide +kernel
theorem dX4_printPersonMarks_52 : decode cX4_printPersonMarks 52 = .ok (.getfield 9, 3) := by decide +kernel
theorem dX4_printPersonMarks_55 : decode cX4_printPersonMarks 55 = .ok (.iload_n 3, 1) := by decide +kernel
theorem dX4_printPersonMarks_56 : decode cX4_printPersonMarks 56 = .ok (.invokestatic 80, 3) := by decide +kernel
theorem dX4_printPersonMarks_59 : decode cX4_printPersonMarks 59 = .ok (.bipush 32, 2) := by decide +kernel
theorem dX4_printPersonMarks_61 : decode cX4_printPersonMarks 61 = .ok (.if_icmp .ne 22, 3) := by decide +kernel
theorem dX4_printPersonMarks_64 : decode cX4_printPersonMarks 64 = .ok (.aload_n 0, 1) := by decide +kernel
theorem dX4_printPersonMarks_65 : decode cX4_printPersonMarks 65 = .ok (.iload_n 3, 1) := by decide +kernel
theorem dX4_printPersonMarks_66 : decode cX4_printPersonMarks 66 = .ok (.aload_n 0, 1) := by decide +kernel
theorem dX4_printPersonMarks_67 : decode cX4_printPersonMarks 67 = .ok (.getfield 22, 3) := by decide +kernel
theorem dX4_printPersonMarks_70 : decode cX4_printPersonMarks 70 = .ok (.getfield 124, 3) := by decide +kernel
theorem dX4_printPersonMarks_73 : decode cX4_printPersonMarks 73 = .ok (.iload_n 2, 1) := by decide +kernel
theorem dX4_printPersonMarks_74 : decode cX4_printPersonMarks 74 = .ok (.invokestatic 80, 3) := by decide +kernel
theorem dX4_printPersonMarks_77 : decode cX4_printPersonMarks 77 = .ok (.invokestatic 108, 3) := by decide +kernel
theorem dX4_printPersonMarks_80 : decode cX4_printPersonMarks 80 = .ok (.invokevirtual 89, 3) := by decide +kernel
theorem dX4_printPersonMarks_83 : decode cX4_printPersonMarks 83 = .ok (.iinc 2 1, 3) := by decide +kernel
theorem dX4_printPersonMarks_86 : decode cX4_printPersonMarks 86 = .ok (.goto (-84), 3) := by decide +kernel
theorem dX4_printPersonMarks_89 : decode cX4_printPersonMarks 89 = .ok (.return_, 1) := by decide +kernel
theorem dX4_markOf_0 : decode cX4_markOf 0 = .ok (.bipush 97, 2) := by decide +kernel
theorem dX4_markOf_2 : decode cX4_markOf 2 = .ok (.iload_n 0, 1) := by decide +kernel
theorem dX4_markOf_3 : decode cX4_markOf 3 = .ok (.iadd, 1) := by decide +kernel
theorem dX4_markOf_4 : decode cX4_markOf 4 = .ok (.ireturn, 1) := by decide +kernel
theorem dX4_widest_0 : decode cX4_widest 0 = .ok (.iconst 0, 1) := by decide +kernel
theorem dX4_widest_1 : decode cX4_widest 1 = .ok (.istore_n 1, 1) := by decide +kernel
theorem dX4_widest_2 : decode cX4_widest 2 = .ok (.iconst 0, 1) := by decide +kernel
theorem dX4_widest_3 : decode cX4_widest 3 = .ok (.istore_n 2, 1) := by decide +kernel
theorem dX4_widest_4 : decode cX4_widest 4 = .ok (.iload_n 2, 1) := by decide +kernel
theorem dX4_widest_5 : decode cX4_widest 5 = .ok (.iconst 3, 1) := by decide +kernel
theorem dX4_widest_6 : decode cX4_widest 6 = .ok (.aload_n 0, 1) := by decide +kernel
theorem dX4_widest_7 : decode cX4_widest 7 = .ok (.getfield 22, 3) := by decide +kernel
theorem dX4_widest_10 : decode cX4_widest 10 = .ok (.getfield 127, 3) := by decide +kernel
theorem dX4_widest_13 : decode cX4_widest 13 = .ok (.imul, 1) := by decide +kernel
theorem dX4_widest_14 : decode cX4_widest 14 = .ok (.if_icmp .ge 23, 3) := by decide +kernel
theorem dX4_widest_17 : decode cX4_widest 17 = .ok (.aload_n 0, 1) := by decide +kernel
theorem dX4_widest_18 : decode cX4_widest 18 = .ok (.iload_n 2, 1) := by decide +kernel
theorem dX4_widest_19 : decode cX4_widest 19 = .ok (.invokevirtual 130, 3) := by decide +kernel
theorem dX4_widest_22 : decode cX4_widest 22 = .ok (.iload_n 1, 1) := by decide +kernel
theorem dX4_widest_23 : decode cX4_widest 23 = .ok (.aload_n 0, 1) := by decide +kernel
theorem dX4_widest_24 : decode cX4_widest 24 = .ok (.getfield 15, 3) := by decide +kernel
theorem dX4_widest_27 : decode cX4_widest 27 = .ok (.invokestatic 57, 3) := by decide +kernel
theorem dX4_widest_30 : decode cX4_widest 30 = .ok (.istore_n 1, 1) := by decide +kernel
theorem dX4_widest_31 : decode cX4_widest 31 = .ok (.iinc 2 1, 3) := by decide +kernel
theorem dX4_widest_34 : decode cX4_widest 34 = .ok (.goto (-30), 3) := by decide +kernel
theorem dX4_widest_37 : decode cX4_widest 37 = .ok (.iload_n 1, 1) := by decide +kernel
theorem dX4_widest_38 : decode cX4_widest 38 = .ok (.ireturn, 1) := by decide +kernel
theorem dX4_cutText_0 : decode cX4_cutText 0 = .ok (.aload_n 0, 1) := by decide +kernel
theorem dX4_cutText_1 : decode cX4_cutText 1 = .ok (.iconst 0, 1) := by decide +kernel
theorem dX4_cutText_2 : decode cX4_cutText 2 = .ok (.putfield 133, 3) := by decide +kernel
theorem dX4_cutText_5 : decode cX4_cutText 5 = .ok (.lload_n 1, 1) := by decide +kernel
theorem dX4_cutText_6 : decode cX4_cutText 6 = .ok (.lconst 0, 1) := by decide +kernel
theorem dX4_cutText_7 : decode cX4_cutText 7 = .ok (.lcmp, 1) := by decide +kernel
theorem dX4_cutText_8 : decode cX4_cutText 8 = .ok (.ifCond .lt 13, 3) := by decide +kernel
theorem dX4_cutText_11 : decode cX4_cutText 11 = .ok (.lload_n 1, 1) := by decide +kernel
theorem dX4_cutText_12 : decode cX4_cutText 12 = .ok (.aload_n 0, 1) := by decide +kernel
theorem dX4_cutText_13 : decode cX4_cutText 13 = .ok (.getfield 15, 3) := by decide +kernel
theorem dX4_cutText_16 : decode cX4_cutText 16 = .ok (.i2l, 1) := by decide +kernel
theorem dX4_cutText_17 : decode cX4_cutText 17 = .ok (.lcmp, 1) := by decide +kernel
theorem dX4_cutText_18 : decode cX4_cutText 18 = .ok (.ifCond .lt 4, 3) := by decide +kernel
theorem dX4_cutText_21 : decode cX4_cutText 21 = .ok (.return_, 1) := by decide +kernel
theorem dX4_cutText_22 : decode cX4_cutText 22 = .ok (.lload_n 1, 1) := by decide +kernel
theorem dX4_cutText_23 : decode cX4_cutText 23 = .ok (.l2i, 1) := by decide +kernel
theorem dX4_cutText_24 : decode cX4_cutText 24 = .ok (.istore 4, 2) := by decide +kernel
theorem dX4_cutText_26 : decode cX4_cutText 26 = .ok (.iload 4, 2) := by decide +kernel
theorem dX4_cutText_28 : decode cX4_cutText 28 = .ok (.iload_n 3, 1) := by decide +kernel
theorem dX4_cutText_29 : decode cX4_cutText 29 = .ok (.iadd, 1) := by decide +kernel
theorem dX4_cutText_30 : decode cX4_cutText 30 = .ok (.aload_n 0, 1) := by decide +kernel
theorem dX4_cutText_31 : decode cX4_cutText 31 = .ok (.getfield 15, 3) := by decide +kernel
theorem dX4_cutText_34 : decode cX4_cutText 34 = .ok (.invokestatic 51, 3) := by decide +kernel
theorem dX4_cutText_37 : decode cX4_cutText 37 = .ok (.istore 5, 2) := by decide +kernel
theorem dX4_cutText_39 : decode cX4_cutText 39 = .ok (.iload 4, 2) := by decide +kernel
theorem dX4_cutText_41 : decode cX4_cutText 41 = .ok (.istore 6, 2) := by decide +kernel
theorem dX4_cutText_43 : decode cX4_cutText 43 = .ok (.iload 6, 2) := by decide +kernel
theorem dX4_cutText_45 : decode cX4_cutText 45 = .ok (.iload 5, 2) := by decide +kernel
theorem dX4_cutText_47 : decode cX4_cutText 47 = .ok (.if_icmp .ge 39, 3) := by decide +kernel
theorem dX4_cutText_50 : decode cX4_cutText 50 = .ok (.aload_n 0, 1) := by decide +kernel
theorem dX4_cutText_51 : decode cX4_cutText 51 = .ok (.getfield 19, 3) := by decide +kernel
theorem dX4_cutText_54 : decode cX4_cutText 54 = .ok (.aload_n 0, 1) := by decide +kernel
theorem dX4_cutText_55 : decode cX4_cutText 55 = .ok (.getfield 133, 3) := by decide +kernel
theorem dX4_cutText_58 : decode cX4_cutText 58 = .ok (.aload_n 0, 1) := by decide +kernel
theorem dX4_cutText_59 : decode cX4_cutText 59 = .ok (.getfield 9, 3) := by decide +kernel
theorem dX4_cutText_62 : decode cX4_cutText 62 = .ok (.iload 6, 2) := by decide +kernel
theorem dX4_cutText_64 : decode cX4_cutText 64 = .ok (.invokestatic 80, 3) := by decide +kernel
theorem dX4_cutText_67 : decode cX4_cutText 67 = .ok (.invokestatic 47, 3) := by decide +kernel
theorem dX4_cutText_70 : decode cX4_cutText 70 = .ok (.aload_n 0, 1) := by decide +kernel
theorem dX4_cutText_71 : decode cX4_cutText 71 = .ok (.dup, 1) := by decide +kernel
theorem dX4_cutText_72 : decode cX4_cutText 72 = .ok (.getfield 133, 3) := by decide +kernel
theorem dX4_cutText_75 : decode cX4_cutText 75 = .ok (.iconst 1, 1) := by decide +kernel
theorem dX4_cutText_76 : decode cX4_cutText 76 = .ok (.iadd, 1) := by decide +kernel
theorem dX4_cutText_77 : decode cX4_cutText 77 = .ok (.putfield 133, 3) := by decide +kernel
theorem dX4_cutText_80 : decode cX4_cutText 80 = .ok (.iinc 6 1, 3) := by decide +kernel
theorem dX4_cutText_83 : decode cX4_cutText 83 = .ok (.goto (-40), 3) := by decide +kernel
theorem dX4_cutText_86 : decode cX4_cutText 86 = .ok (.return_, 1) := by decide +kernel
theorem dX5_init_0 : decode cX5_init 0 = .ok (.aload_n 0, 1) := by decide +kernel
theorem dX5_init_1 : decode cX5_init 1 = .ok (.invokespecial 3, 3) := by decide +kernel
theorem dX5_init_4 : decode cX5_init 4 = .ok (.aload_n 0, 1) := by decide +kernel
theorem dX5_init_5 : decode cX5_init 5 = .ok (.bipush 16, 2) := by decide +kernel
theorem dX5_init_7 : decode cX5_init 7 = .ok (.newarray .int, 2) := by decide +kernel
theorem dX5_init_9 : decode cX5_init 9 = .ok (.putfield 9, 3) := by decide +kernel
theorem dX5_init_12 : decode cX5_init 12 = .ok (.aload_n 0, 1) := by decide +kernel
theorem dX5_init_13 : decode cX5_init 13 = .ok (.bipush 16, 2) := by decide +kernel
theorem dX5_init_15 : decode cX5_init 15 = .ok (.newarray .int, 2) := by decide +kernel
theorem dX5_init_17 : decode cX5_init 17 = .ok (.putfield 15, 3) := by decide +kernel
theorem dX5_init_20 : decode cX5_init 20 = .ok (.aload_n 0, 1) := by decide +kernel
theorem dX5_init_21 : decode cX5_init 21 = .ok (.bipush 112, 2) := by decide +kernel
theorem dX5_init_23 : decode cX5_init 23 = .ok (.newarray .int, 2) := by decide +kernel
theorem dX5_init_25 : decode cX5_init 25 = .ok (.putfield 18, 3) := by decide +kernel
theorem dX5_init_28 : decode cX5_init 28 = .ok (.aload_n 0, 1) := by decide +kernel
theorem dX5_init_29 : decode cX5_init 29 = .ok (.aload_n 1, 1) := by decide +kernel
theorem dX5_init_30 : decode cX5_init 30 = .ok (.putfield 21, 3) := by decide +kernel
theorem dX5_init_33 : decode cX5_init 33 = .ok (.aload_n 0, 1) := by decide +kernel
theorem dX5_init_34 : decode cX5_init 34 = .ok (.aload_n 2, 1) := by decide +kernel
theorem dX5_init_35 : decode cX5_init 35 = .ok (.putfield 25, 3) := by decide +kernel
theorem dX5_init_38 : decode cX5_init 38 = .ok (.return_, 1) := by decide +kernel
theorem dX6_init_0 : decode cX6_init 0 = .ok (.aload_n 0, 1) := by decide +kernel
theorem dX6_init_1 : decode cX6_init 1 = .ok (.invokespecial 3, 3) := by decide +kernel
theorem dX6_init_4 : decode cX6_init 4 = .ok (.aload_n 0, 1) := by decide +kernel
theorem dX6_init_5 : decode cX6_init 5 = .ok (.sipush 256, 3) := by decide +kernel
theorem dX6_init_8 : decode cX6_init 8 = .ok (.newarray .long, 2) := by decide +kernel
theorem dX6_init_10 : decode cX6_init 10 = .ok (.putfield 9, 3) := by decide +kernel
theorem dX6_init_13 : decode cX6_init 13 = .ok (.aload_n 0, 1) := by decide +kernel
theorem dX6_init_14 : decode cX6_init 14 = .ok (.bipush 16, 2) := by decide +kernel
theorem dX6_init_16 : decode cX6_init 16 = .ok (.newarray .int, 2) := by decide +kernel
theorem dX6_init_18 : decode cX6_init 18 = .ok (.putfield 15, 3) := by decide +kernel
theorem dX6_init_21 : decode cX6_init 21 = .ok (.aload_n 0, 1) := by decide +kernel
theorem dX6_init_22 : decode cX6_init 22 = .ok (.bipush 16, 2) := by decide +kernel
theorem dX6_init_24 : decode cX6_init 24 = .ok (.newarray .int, 2) := by decide +kernel
theorem dX6_init_26 : decode cX6_init 26 = .ok (.putfield 19, 3) := by decide +kernel
theorem dX6_init_29 : decode cX6_init 29 = .ok (.aload_n 0, 1) := by decide +kernel
theorem dX6_init_30 : decode cX6_init 30 = .ok (.aload_n 1, 1) := by decide +kernel
theorem dX6_init_31 : decode cX6_init 31 = .ok (.putfield 22, 3) := by decide +kernel
theorem dX6_init_34 : decode cX6_init 34 = .ok (.return_, 1) := by decide +kernel
theorem dX6_kinshipOf_0 : decode cX6_kinshipOf 0 = .ok (.iload_n 1, 1) := by decide +kernel
theorem dX6_kinshipOf_1 : decode cX6_kinshipOf 1 = .ok (.bipush 16, 2) := by decide +kernel
theorem dX6_kinshipOf_3 : decode cX6_kinshipOf 3 = .ok (.imul, 1) := by decide +kernel
theorem dX6_kinshipOf_4 : decode cX6_kinshipOf 4 = .ok (.iload_n 2, 1) := by decide +kernel
theorem dX6_kinshipOf_5 : decode cX6_kinshipOf 5 = .ok (.iadd, 1) := by decide +kernel
theorem dX6_kinshipOf_6 : decode cX6_kinshipOf 6 = .ok (.istore_n 3, 1) := by decide +kernel
theorem dX6_kinshipOf_7 : decode cX6_kinshipOf 7 = .ok (.iload_n 1, 1) := by decide +kernel
theorem dX6_kinshipOf_8 : decode cX6_kinshipOf 8 = .ok (.ifCond .lt 20, 3) := by decide +kernel
theorem dX6_kinshipOf_11 : decode cX6_kinshipOf 11 = .ok (.iload_n 2, 1) := by decide +kernel
theorem dX6_kinshipOf_12 : decode cX6_kinshipOf 12 = .ok (.ifCond .lt 16, 3) := by decide +kernel
theorem dX6_kinshipOf_15 : decode cX6_kinshipOf 15 = .ok (.iload_n 3, 1) := by decide +kernel
theorem dX6_kinshipOf_16 : decode cX6_kinshipOf 16 = .ok (.ifCond .lt 12, 3) := by decide +kernel
theorem dX6_kinshipOf_19 : decode cX6_kinshipOf 19 = .ok (.iload_n 3, 1) := by decide +kernel
theorem dX6_kinshipOf_20 : decode cX6_kinshipOf 20 = .ok (.aload_n 0, 1) := by decide +kernel
theorem dX6_kinshipOf_21 : decode cX6_kinshipOf 21 = .ok (.getfield 9, 3) := by decide +kernel
theorem dX6_kinshipOf_24 : decode cX6_kinshipOf 24 = .ok (.arraylength, 1) := by decide +kernel
theorem dX6_kinshipOf_25 : decode cX6_kinshipOf 25 = .ok (.if_icmp .lt 7, 3) := by decide +kernel
theorem dX6_kinshipOf_28 : decode cX6_kinshipOf 28 = .ok (.lconst 0, 1) := by decide +kernel
theorem dX6_kinshipOf_29 : decode cX6_kinshipOf 29 = .ok (.goto 9, 3) := by decide +kernel
theorem dX6_kinshipOf_32 : decode cX6_kinshipOf 32 = .ok (.aload_n 0, 1) := by decide +kernel
theorem dX6_kinshipOf_33 : decode cX6_kinshipOf 33 = .ok (.getfield 9, 3) := by decide +kernel
theorem dX6_kinshipOf_36 : decode cX6_kinshipOf 36 = .ok (.iload_n 3, 1) := by decide +kernel
theorem dX6_kinshipOf_37 : decode cX6_kinshipOf 37 = .ok (.laload, 1) := by decide +kernel
theorem dX6_kinshipOf_38 : decode cX6_kinshipOf 38 = .ok (.lreturn, 1) := by decide +kernel
theorem dX6_putKinship_0 : decode cX6_putKinship 0 = .ok (.iload_n 1, 1) := by decide +kernel
theorem dX6_putKinship_1 : decode cX6_putKinship 1 = .ok (.bipush 16, 2) := by decide +kernel
theorem dX6_putKinship_3 : decode cX6_putKinship 3 = .ok (.imul, 1) := by decide +kernel
theorem dX6_putKinship_4 : decode cX6_putKinship 4 = .ok (.iload_n 2, 1) := by decide +kernel
theorem dX6_putKinship_5 : decode cX6_putKinship 5 = .ok (.iadd, 1) := by decide +kernel
theorem dX6_putKinship_6 : decode cX6_putKinship 6 = .ok (.istore 5, 2) := by decide +kernel
theorem dX6_putKinship_8 : decode cX6_putKinship 8 = .ok (.iload_n 1, 1) := by decide +kernel
theorem dX6_putKinship_9 : decode cX6_putKinship 9 = .ok (.ifCond .lt 30, 3) := by decide +kernel
theorem dX6_putKinship_12 : decode cX6_putKinship 12 = .ok (.iload_n 2, 1) := by decide +kernel
theorem dX6_putKinship_13 : decode cX6_putKinship 13 = .ok (.ifCond .lt 26, 3) := by decide +kernel
theorem dX6_putKinship_16 : decode cX6_putKinship 16 = .ok (.iload 5, 2) := by decide +kernel
theorem dX6_putKinship_18 : decode cX6_putKinship 18 = .ok (.ifCond .lt 21, 3) := by decide +kernel
theorem dX6_putKinship_21 : decode cX6_putKinship 21 = .ok (.iload 5, 2) := by decide +kernel
theorem dX6_putKinship_23 : decode cX6_putKinship 23 = .ok (.aload_n 0, 1) := by decide +kernel
theorem dX6_putKinship_24 : decode cX6_putKinship 24 = .ok (.getfield 9, 3) := by decide +kernel
theorem dX6_putKinship_27 : decode cX6_putKinship 27 = .ok (.arraylength, 1) := by decide +kernel
theorem dX6_putKinship_28 : decode cX6_putKinship 28 = .ok (.if_icmp .ge 11, 3) := by decide +kernel
theorem dX6_putKinship_31 : decode cX6_putKinship 31 = .ok (.aload_n 0, 1) := by decide +kernel
theorem dX6_putKinship_32 : decode cX6_putKinship 32 = .ok (.getfield 9, 3) := by decide +kernel
theorem dX6_putKinship_35 : decode cX6_putKinship 35 = .ok (.iload 5, 2) := by decide +kernel
theorem dX6_putKinship_37 : decode cX6_putKinship 37 = .ok (.lload_n 3, 1) := by decide +kernel
theorem dX6_putKinship_38 : decode cX6_putKinship 38 = .ok (.lastore, 1) := by decide +kernel
theorem dX6_putKinship_39 : decode cX6_putKinship 39 = .ok (.return_, 1) := by decide +kernel
theorem dX6_noteKinships_0 : decode cX6_noteKinships 0 = .ok (.iconst 0, 1) := by decide +kernel
theorem dX6_noteKinships_1 : decode cX6_noteKinships 1 = .ok (.istore_n 1, 1) := by decide +kernel
theorem dX6_noteKinships_2 : decode cX6_noteKinships 2 = .ok (.iload_n 1, 1) := by decide +kernel
theorem dX6_noteKinships_3 : decode cX6_noteKinships 3 = .ok (.aload_n 0, 1) := by decide +kernel
theorem dX6_noteKinships_4 : decode cX6_noteKinships 4 = .ok (.getfield 22, 3) := by decide +kernel
theorem dX6_noteKinships_7 : decode cX6_noteKinships 7 = .ok (.getfield 26, 3) := by decide +kernel
theorem dX6_noteKinships_10 : decode cX6_noteKinships 10 = .ok (.if_icmp .ge 49, 3) := by decide +kernel
theorem dX6_noteKinships_13 : decode cX6_noteKinships 13 = .ok (.iconst 0, 1) := by decide +kernel
theorem dX6_noteKinships_14 : decode cX6_noteKinships 14 = .ok (.istore_n 2, 1) := by decide +kernel
theorem dX6_noteKinships_15 : decode cX6_noteKinships 15 = .ok (.iload_n 2, 1) := by decide +kernel
theorem dX6_noteKinships_16 : decode cX6_noteKinships 16 = .ok (.aload_n 0, 1) := by decide +kernel
theorem dX6_noteKinships_17 : decode cX6_noteKinships 17 = .ok (.getfield 22, 3) := by decide +kernel
theorem dX6_noteKinships_20 : decode cX6_noteKinships 20 = .ok (.getfield 32, 3) := by decide +kernel
theorem dX6_noteKinships_23 : decode cX6_noteKinships 23 = .ok (.if_icmp .ge 30, 3) := by decide +kernel
theorem dX6_noteKinships_26 : decode cX6_noteKinships 26 = .ok (.aload_n 0, 1) := by decide +kernel
theorem dX6_noteKinships_27 : decode cX6_noteKinships 27 = .ok (.getfield 22, 3) := by decide +kernel
theorem dX6_noteKinships_30 : decode cX6_noteKinships 30 = .ok (.getfield 35, 3) := by decide +kernel
theorem dX6_noteKinships_33 : decode cX6_noteKinships 33 = .ok (.iload_n 2, 1) := by decide +kernel
theorem dX6_noteKinships_34 : decode cX6_noteKinships 34 = .ok (.invokestatic 38, 3) := by decide +kernel
theorem dX6_noteKinships_37 : decode cX6_noteKinships 37 = .ok (.iload_n 1, 1) := by decide +kernel
theorem dX6_noteKinships_38 : decode cX6_noteKinships 38 = .ok (.if_icmp .ne 9, 3) := by decide +kernel
theorem dX6_noteKinships_41 : decode cX6_noteKinships 41 = .ok (.aload_n 0, 1) := by decide +kernel
theorem dX6_noteKinships_42 : decode cX6_noteKinships 42 = .ok (.iload_n 2, 1) := by decide +kernel
theorem dX6_noteKinships_43 : decode cX6_noteKinships 43 = .ok (.iload_n 1, 1) := by decide +kernel
theorem dX6_noteKinships_44 : decode cX6_noteKinships 44 = .ok (.invokevirtual 42, 3) := by decide +kernel
theorem dX6_noteKinships_47 : decode cX6_noteKinships 47 = .ok (.iinc 2 1, 3) := by decide +kernel
theorem dX6_noteKinships_50 : decode cX6_noteKinships 50 = .ok (.goto (-35), 3) := by decide +kernel
theorem dX6_noteKinships_53 : decode cX6_noteKinships 53 = .ok (.iinc 1 1, 3) := by decide +kernel
theorem dX6_noteKinships_56 : decode cX6_noteKinships 56 = .ok (.goto (-54), 3) := by decide +kernel
theorem dX6_noteKinships_59 : decode cX6_noteKinships 59 = .ok (.return_, 1) := by decide +kernel
theorem dX6_noteKinshipsOf_0 : decode cX6_noteKinshipsOf 0 = .ok (.aload_n 0, 1) := by decide +kernel
theorem dX6_noteKinshipsOf_1 : decode cX6_noteKinshipsOf 1 = .ok (.getfield 22, 3) := by decide +kernel
theorem dX6_noteKinshipsOf_4 : decode cX6_noteKinshipsOf 4 = .ok (.iload_n 1, 1) := by decide +kernel
theorem dX6_noteKinshipsOf_5 : decode cX6_noteKinshipsOf 5 = .ok (.invokevirtual 46, 3) := by decide +kernel
theorem dX6_noteKinshipsOf_8 : decode cX6_noteKinshipsOf 8 = .ok (.istore_n 3, 1) := by decide +kernel
theorem dX6_noteKinshipsOf_9 : decode cX6_noteKinshipsOf 9 = .ok (.aload_n 0, 1) := by decide +kernel
theorem dX6_noteKinshipsOf_10 : decode cX6_noteKinshipsOf 10 = .ok (.getfield 22, 3) := by decide +kernel
theorem dX6_noteKinshipsOf_13 : decode cX6_noteKinshipsOf 13 = .ok (.iload_n 1, 1) := by decide +kernel
theorem dX6_noteKinshipsOf_14 : decode cX6_noteKinshipsOf 14 = .ok (.invokevirtual 50, 3) := by decide +kernel
theorem dX6_noteKinshipsOf_17 : decode cX6_noteKinshipsOf 17 = .ok (.istore 4, 2) := by decide +kernel
theorem dX6_noteKinshipsOf_19 : decode cX6_noteKinshipsOf 19 = .ok (.iconst 0, 1) := by decide +kernel
theorem dX6_noteKinshipsOf_20 : decode cX6_noteKinshipsOf 20 = .ok (.istore 5, 2) := by decide +kernel
theorem dX6_noteKinshipsOf_22 : decode cX6_noteKinshipsOf 22 = .ok (.iload 5, 2) := by decide +kernel
theorem dX6_noteKinshipsOf_24 : decode cX6_noteKinshipsOf 24 = .ok (.aload_n 0, 1) := by decide +kernel
theorem dX6_noteKinshipsOf_25 : decode cX6_noteKinshipsOf 25 = .ok (.getfield 22, 3) := by decide +kernel
theorem dX6_noteKinshipsOf_28 : decode cX6_noteKinshipsOf 28 = .ok (.getfield 32, 3) := by decide +kernel
theorem dX6_noteKinshipsOf_31 : decode cX6_noteKinshipsOf 31 = .ok (.if_icmp .ge 81, 3) := by decide +kernel
theorem dX6_noteKinshipsOf_34 : decode cX6_noteKinshipsOf 34 = .ok (.aload_n 0, 1) := by decide +kernel
theorem dX6_noteKinshipsOf_35 : decode cX6_noteKinshipsOf 35 = .ok (.getfield 22, 3) := by decide +kernel
theorem dX6_noteKinshipsOf_38 : decode cX6_noteKinshipsOf 38 = .ok (.getfield 35, 3) := by decide +kernel
theorem dX6_noteKinshipsOf_41 : decode cX6_noteKinshipsOf 41 = .ok (.iload 5, 2) := by decide +kernel
theorem dX6_noteKinshipsOf_43 : decode cX6_noteKinshipsOf 43 = .ok (.invokestatic 38, 3) := by decide +kernel
theorem dX6_noteKinshipsOf_46 : decode cX6_noteKinshipsOf 46 = .ok (.istore 6, 2) := by decide +kernel
theorem dX6_noteKinshipsOf_48 : decode cX6_noteKinshipsOf 48 = .ok (.iload 6, 2) := by decide +kernel
theorem dX6_noteKinshipsOf_50 : decode cX6_noteKinshipsOf 50 = .ok (.iload_n 2, 1) := by decide +kernel
theorem dX6_noteKinshipsOf_51 : decode cX6_noteKinshipsOf 51 = .ok (.if_icmp .lt 15, 3) := by decide +kernel
theorem dX6_noteKinshipsOf_54 : decode cX6_noteKinshipsOf 54 = .ok (.iload 6, 2) := by decide +kernel
theorem dX6_noteKinshipsOf_56 : decode cX6_noteKinshipsOf 56 = .ok (.iload_n 2, 1) := by decide +kernel
theorem dX6_noteKinshipsOf_57 : decode cX6_noteKinshipsOf 57 = .ok (.if_icmp .ne 49, 3) := by decide +kernel
theorem dX6_noteKinshipsOf_60 : decode cX6_noteKinshipsOf 60 = .ok (.iload 5, 2) := by decide +kernel
theorem dX6_noteKinshipsOf_62 : decode cX6_noteKinshipsOf 62 = .ok (.iload_n 1, 1) := by decide +kernel
theorem dX6_noteKinshipsOf_63 : decode cX6_noteKinshipsOf 63 = .ok (.if_icmp .ge 43, 3) := by decide +kernel
theorem dX6_noteKinshipsOf_66 : decode cX6_noteKinshipsOf 66 = .ok (.aload_n 0, 1) := by decide +kernel
theorem dX6_noteKinshipsOf_67 : decode cX6_noteKinshipsOf 67 = .ok (.iload 5, 2) := by decide +kernel
theorem dX6_noteKinshipsOf_69 : decode cX6_noteKinshipsOf 69 = .ok (.iload_n 3, 1) := by decide +kernel
theorem dX6_noteKinshipsOf_70 : decode cX6_noteKinshipsOf 70 = .ok (.invokevirtual 53, 3) := by decide +kernel
theorem dX6_noteKinshipsOf_73 : decode cX6_noteKinshipsOf 73 = .ok (.aload_n 0, 1) := by decide +kernel
theorem dX6_noteKinshipsOf_74 : decode cX6_noteKinshipsOf 74 = .ok (.iload 5, 2) := by decide +kernel
theorem dX6_noteKinshipsOf_76 : decode cX6_noteKinshipsOf 76 = .ok (.iload 4, 2) := by decide +kernel
theorem dX6_noteKinshipsOf_78 : decode cX6_noteKinshipsOf 78 = .ok (.invokevirtual 53, 3) := by decide +kernel
theorem dX6_noteKinshipsOf_81 : decode cX6_noteKinshipsOf 81 = .ok (.ladd, 1) := by decide +kernel
theorem dX6_noteKinshipsOf_82 : decode cX6_noteKinshipsOf 82 = .ok (.ldc2_w 57, 3) := by decide +kernel
theorem dX6_noteKinshipsOf_85 : decode cX6_noteKinshipsOf 85 = .ok (.ldiv, 1) := by decide +kernel
theorem dX6_noteKinshipsOf_86 : decode cX6_noteKinshipsOf 86 = .ok (.lstore 7, 2) := by decide +kernel
theorem dX6_noteKinshipsOf_88 : decode cX6_noteKinshipsOf 88 = .ok (.aload_n 0, 1) := by decide +kernel
theorem dX6_noteKinshipsOf_89 : decode cX6_noteKinshipsOf 89 = .ok (.iload_n 1, 1) := by decide +kernel
theorem dX6_noteKinshipsOf_90 : decode cX6_noteKinshipsOf 90 = .ok (.iload 5, 2) := by decide +kernel
theorem dX6_noteKinshipsOf_92 : decode cX6_noteKinshipsOf 92 = .ok (.lload 7, 2) := by decide +kernel
theorem dX6_noteKinshipsOf_94 : decode cX6_noteKinshipsOf 94 = .ok (.invokevirtual 59, 3) := by decide +kernel
theorem dX6_noteKinshipsOf_97 : decode cX6_noteKinshipsOf 97 = .ok (.aload_n 0, 1) := by decide +kernel
theorem dX6_noteKinshipsOf_98 : decode cX6_noteKinshipsOf 98 = .ok (.iload 5, 2) := by decide +kernel
theorem dX6_noteKinshipsOf_100 : decode cX6_noteKinshipsOf 100 = .ok (.iload_n 1, 1) := by decide +kernel
theorem dX6_noteKinshipsOf_101 : decode cX6_noteKinshipsOf 101 = .ok (.lload 7, 2) := by decide +kernel
theorem dX6_noteKinshipsOf_103 : decode cX6_noteKinshipsOf 103 = .ok (.invokevirtual 59, 3) := by decide +kernel
theorem dX6_noteKinshipsOf_106 : decode cX6_noteKinshipsOf 106 = .ok (.iinc 5 1, 3) := by decide +kernel
theorem dX6_noteKinshipsOf_109 : decode cX6_noteKinshipsOf 109 = .ok (.goto (-87), 3) := by decide +kernel
theorem dX6_noteKinshipsOf_112 : decode cX6_noteKinshipsOf 112 = .ok (.aload_n 0, 1) := by decide +kernel
theorem dX6_noteKinshipsOf_113 : decode cX6_noteKinshipsOf 113 = .ok (.iload_n 1, 1) := by decide +kernel
theorem dX6_noteKinshipsOf_114 : decode cX6_noteKinshipsOf 114 = .ok (.iload_n 1, 1) := by decide +kernel
theorem dX6_noteKinshipsOf_115 : decode cX6_noteKinshipsOf 115 = .ok (.ldc2_w 63, 3) := by decide +kernel
theorem dX6_noteKinshipsOf_118 : decode cX6_noteKinshipsOf 118 = .ok (.aload_n 0, 1) := by decide +kernel
theorem dX6_noteKinshipsOf_119 : decode cX6_noteKinshipsOf 119 = .ok (.iload_n 3, 1) := by decide +kernel
theorem dX6_noteKinshipsOf_120 : decode cX6_noteKinshipsOf 120 = .ok (.iload 4, 2) := by decide +kernel
theorem dX6_noteKinshipsOf_122 : decode cX6_noteKinshipsOf 122 = .ok (.invokevirtual 53, 3) := by decide +kernel
theorem dX6_noteKinshipsOf_125 : decode cX6_noteKinshipsOf 125 = .ok (.ldc2_w 57, 3) := by decide +kernel
theorem dX6_noteKinshipsOf_128 : decode cX6_noteKinshipsOf 128 = .ok (.ldiv, 1) := by decide +kernel
theorem dX6_noteKinshipsOf_129 : decode cX6_noteKinshipsOf 129 = .ok (.ladd, 1) := by decide +kernel
theorem dX6_noteKinshipsOf_130 : decode cX6_noteKinshipsOf 130 = .ok (.invokevirtual 59, 3) := by decide +kernel
theorem dX6_noteKinshipsOf_133 : decode cX6_noteKinshipsOf 133 = .ok (.return_, 1) := by decide +kernel
theorem dX6_stepsBetween_0 : decode cX6_stepsBetween 0 = .ok (.iload_n 1, 1) := by decide +kernel
theorem dX6_stepsBetween_1 : decode cX6_stepsBetween 1 = .ok (.invokestatic 74, 3) := by decide +kernel
theorem dX6_stepsBetween_4 : decode cX6_stepsBetween 4 = .ok (.istore_n 3, 1) := by decide +kernel
theorem dX6_stepsBetween_5 : decode cX6_stepsBetween 5 = .ok (.iconst 0, 1) := by decide +kernel
theorem dX6_stepsBetween_6 : decode cX6_stepsBetween 6 = .ok (.istore 4, 2) := by decide +kernel
theorem dX6_stepsBetween_8 : decode cX6_stepsBetween 8 = .ok (.iload 4, 2) := by decide +kernel
theorem dX6_stepsBetween_10 : decode cX6_stepsBetween 10 = .ok (.bipush 16, 2) := by decide +kernel
theorem dX6_stepsBetween_12 : decode cX6_stepsBetween 12 = .ok (.if_icmp .ge 29, 3) := by decide +kernel
theorem dX6_stepsBetween_15 : decode cX6_stepsBetween 15 = .ok (.iload_n 3, 1) := by decide +kernel
theorem dX6_stepsBetween_16 : decode cX6_stepsBetween 16 = .ok (.iload_n 2, 1) := by decide +kernel
theorem dX6_stepsBetween_17 : decode cX6_stepsBetween 17 = .ok (.invokestatic 74, 3) := by decide +kernel
theorem dX6_stepsBetween_20 : decode cX6_stepsBetween 20 = .ok (.iand, 1) := by decide +kernel
theorem dX6_stepsBetween_21 : decode cX6_stepsBetween 21 = .ok (.ifCond .eq 6, 3) := by decide +kernel
theorem dX6_stepsBetween_24 : decode cX6_stepsBetween 24 = .ok (.iload 4, 2) := by decide +kernel
theorem dX6_stepsBetween_26 : decode cX6_stepsBetween 26 = .ok (.ireturn, 1) := by decide +kernel
theorem dX6_stepsBetween_27 : decode cX6_stepsBetween 27 = .ok (.iload_n 3, 1) := by decide +kernel
theorem dX6_stepsBetween_28 : decode cX6_stepsBetween 28 = .ok (.aload_n 0, 1) := by decide +kernel
theorem dX6_stepsBetween_29 : decode cX6_stepsBetween 29 = .ok (.iload_n 3, 1) := by decide +kernel
theorem dX6_stepsBetween_30 : decode cX6_stepsBetween 30 = .ok (.invokevirtual 77, 3) := by decide +kernel
theorem dX6_stepsBetween_33 : decode cX6_stepsBetween 33 = .ok (.ior, 1) := by decide +kernel
theorem dX6_stepsBetween_34 : decode cX6_stepsBetween 34 = .ok (.istore_n 3, 1) := by decide +kernel
theorem dX6_stepsBetween_35 : decode cX6_stepsBetween 35 = .ok (.iinc 4 1, 3) := by decide +kernel
theorem dX6_stepsBetween_38 : decode cX6_stepsBetween 38 = .ok (.goto (-30), 3) := by decide +kernel
theorem dX6_stepsBetween_41 : decode cX6_stepsBetween 41 = .ok (.iconst (-1), 1) := by decide +kernel
theorem dX6_stepsBetween_42 : decode cX6_stepsBetween 42 = .ok (.ireturn, 1) := by decide +kernel
theorem dX6_neighbours_0 : decode cX6_neighbours 0 = .ok (.iconst 0, 1) := by decide +kernel
theorem dX6_neighbours_1 : decode cX6_neighbours 1 = .ok (.istore_n 2, 1) := by decide +kernel
theorem dX6_neighbours_2 : decode cX6_neighbours 2 = .ok (.iconst 0, 1) := by decide +kernel
theorem dX6_neighbours_3 : decode cX6_neighbours 3 = .ok (.istore_n 3, 1) := by decide +kernel
theorem dX6_neighbours_4 : decode cX6_neighbours 4 = .ok (.iload_n 3, 1) := by decide +kernel
theorem dX6_neighbours_5 : decode cX6_neighbours 5 = .ok (.aload_n 0, 1) := by decide +kernel
theorem dX6_neighbours_6 : decode cX6_neighbours 6 = .ok (.getfield 22, 3) := by decide +kernel
theorem dX6_neighbours_9 : decode cX6_neighbours 9 = .ok (.getfield 32, 3) := by decide +kernel
theorem dX6_neighbours_12 : decode cX6_neighbours 12 = .ok (.if_icmp .ge 62, 3) := by decide +kernel
theorem dX6_neighbours_15 : decode cX6_neighbours 15 = .ok (.aload_n 0, 1) := by decide +kernel
theorem dX6_neighbours_16 : decode cX6_neighbours 16 = .ok (.getfield 22, 3) := by decide +kernel
theorem dX6_neighbours_19 : decode cX6_neighbours 19 = .ok (.iload_n 3, 1) := by decide +kernel
theorem dX6_neighbours_20 : decode cX6_neighbours 20 = .ok (.invokevirtual 46, 3) := by decide +kernel
theorem dX6_neighbours_23 : decode cX6_neighbours 23 = .ok (.invokestatic 74, 3) := by decide +kernel
theorem dX6_neighbours_26 : decode cX6_neighbours 26 = .ok (.aload_n 0, 1) := by decide +kernel
theorem dX6_neighbours_27 : decode cX6_neighbours 27 = .ok (.getfield 22, 3) := by decide +kernel
theorem dX6_neighbours_30 : decode cX6_neighbours 30 = .ok (.iload_n 3, 1) := by decide +kernel
theorem dX6_neighbours_31 : decode cX6_neighbours 31 = .ok (.invokevirtual 50, 3) := by decide +kernel
theorem dX6_neighbours_34 : decode cX6_neighbours 34 = .ok (.invokestatic 74, 3) := by decide +kernel
theorem dX6_neighbours_37 : decode cX6_neighbours 37 = .ok (.ior, 1) := by decide +kernel
theorem dX6_neighbours_38 : decode cX6_neighbours 38 = .ok (.istore 4, 2) := by decide +kernel
theorem dX6_neighbours_40 : decode cX6_neighbours 40 = .ok (.iload_n 1, 1) := by decide +kernel
theorem dX6_neighbours_41 : decode cX6_neighbours 41 = .ok (.iload_n 3, 1) := by decide +kernel
theorem dX6_neighbours_42 : decode cX6_neighbours 42 = .ok (.invokestatic 74, 3) := by decide +kernel
theorem dX6_neighbours_45 : decode cX6_neighbours 45 = .ok (.iand, 1) := by decide +kernel
theorem dX6_neighbours_46 : decode cX6_neighbours 46 = .ok (.ifCond .eq 8, 3) := by decide +kernel
theorem dX6_neighbours_49 : decode cX6_neighbours 49 = .ok (.iload_n 2, 1) := by decide +kernel
theorem dX6_neighbours_50 : decode cX6_neighbours 50 = .ok (.iload 4, 2) := by decide +kernel
theorem dX6_neighbours_52 : decode cX6_neighbours 52 = .ok (.ior, 1) := by decide +kernel
theorem dX6_neighbours_53 : decode cX6_neighbours 53 = .ok (.istore_n 2, 1) := by decide +kernel
theorem dX6_neighbours_54 : decode cX6_neighbours 54 = .ok (.iload_n 1, 1) := by decide +kernel
theorem dX6_neighbours_55 : decode cX6_neighbours 55 = .ok (.iload 4, 2) := by decide +kernel
theorem dX6_neighbours_57 : decode cX6_neighbours 57 = .ok (.iand, 1) := by decide +kernel
theorem dX6_neighbours_58 : decode cX6_neighbours 58 = .ok (.ifCond .eq 10, 3) := by decide +kernel
theorem dX6_neighbours_61 : decode cX6_neighbours 61 = .ok (.iload_n 2, 1) := by decide +kernel
theorem dX6_neighbours_62 : decode cX6_neighbours 62 = .ok (.iload_n 3, 1) := by decide +kernel
theorem dX6_neighbours_63 : decode cX6_neighbours 63 = .ok (.invokestatic 74, 3) := by decide +kernel
theorem dX6_neighbours_66 : decode cX6_neighbours 66 = .ok (.ior, 1) := by decide +kernel
theorem dX6_neighbours_67 : decode cX6_neighbours 67 = .ok (.istore_n 2, 1) := by decide +kernel
theorem dX6_neighbours_68 : decode cX6_neighbours 68 = .ok (.iinc 3 1, 3) := by decide +kernel
theorem dX6_neighbours_71 : decode cX6_neighbours 71 = .ok (.goto (-67), 3) := by decide +kernel
theorem dX6_neighbours_74 : decode cX6_neighbours 74 = .ok (.iload_n 2, 1) := by decide +kernel
theorem dX6_neighbours_75 : decode cX6_neighbours 75 = .ok (.ireturn, 1) := by decide +kernel
theorem dX6_countLines_0 : decode cX6_countLines 0 = .ok (.aload_n 0, 1) := by decide +kernel
theorem dX6_countLines_1 : decode cX6_countLines 1 = .ok (.getfield 15, 3) := by decide +kernel
theorem dX6_countLines_4 : decode cX6_countLines 4 = .ok (.iconst 0, 1) := by decide +kernel
theorem dX6_countLines_5 : decode cX6_countLines 5 = .ok (.invokestatic 80, 3) := by decide +kernel
theorem dX6_countLines_8 : decode cX6_countLines 8 = .ok (.aload_n 0, 1) := by decide +kernel
theorem dX6_countLines_9 : decode cX6_countLines 9 = .ok (.getfield 15, 3) := by decide +kernel
theorem dX6_countLines_12 : decode cX6_countLines 12 = .ok (.iload_n 2, 1) := by decide +kernel
theorem dX6_countLines_13 : decode cX6_countLines 13 = .ok (.iconst 1, 1) := by decide +kernel
theorem dX6_countLines_14 : decode cX6_countLines 14 = .ok (.invokestatic 84, 3) := by decide +kernel
theorem dX6_countLines_17 : decode cX6_countLines 17 = .ok (.iconst 1, 1) := by decide +kernel
theorem dX6_countLines_18 : decode cX6_countLines 18 = .ok (.istore_n 3, 1) := by decide +kernel
theorem dX6_countLines_19 : decode cX6_countLines 19 = .ok (.iload_n 3, 1) := by decide +kernel
theorem dX6_countLines_20 : decode cX6_countLines 20 = .ok (.aload_n 0, 1) := by decide +kernel
theorem dX6_countLines_21 : decode cX6_countLines 21 = .ok (.getfield 22, 3) := by decide +kernel
theorem dX6_countLines_24 : decode cX6_countLines 24 = .ok (.getfield 26, 3) := by decide +kernel
theorem dX6_countLines_27 : decode cX6_countLines 27 = .ok (.if_icmp .ge 94, 3) := by decide +kernel
theorem dX6_countLines_30 : decode cX6_countLines 30 = .ok (.iconst 0, 1) := by decide +kernel
theorem dX6_countLines_31 : decode cX6_countLines 31 = .ok (.istore 4, 2) := by decide +kernel
theorem dX6_countLines_33 : decode cX6_countLines 33 = .ok (.iload 4, 2) := by decide +kernel
theorem dX6_countLines_35 : decode cX6_countLines 35 = .ok (.aload_n 0, 1) := by decide +kernel
theorem dX6_countLines_36 : decode cX6_countLines 36 = .ok (.getfield 22, 3) := by decide +kernel
theorem dX6_countLines_39 : decode cX6_countLines 39 = .ok (.getfield 32, 3) := by decide +kernel
theorem dX6_countLines_42 : decode cX6_countLines 42 = .ok (.if_icmp .ge 73, 3) := by decide +kernel
theorem dX6_countLines_45 : decode cX6_countLines 45 = .ok (.aload_n 0, 1) := by decide +kernel
theorem dX6_countLines_46 : decode cX6_countLines 46 = .ok (.getfield 22, 3) := by decide +kernel
theorem dX6_countLines_49 : decode cX6_countLines 49 = .ok (.getfield 35, 3) := by decide +kernel
theorem dX6_countLines_52 : decode cX6_countLines 52 = .ok (.iload 4, 2) := by decide +kernel
theorem dX6_countLines_54 : decode cX6_countLines 54 = .ok (.invokestatic 38, 3) := by decide +kernel
theorem dX6_countLines_57 : decode cX6_countLines 57 = .ok (.iload_n 3, 1) := by decide +kernel
theorem dX6_countLines_58 : decode cX6_countLines 58 = .ok (.if_icmp .ne 51, 3) := by decide +kernel
theorem dX6_countLines_61 : decode cX6_countLines 61 = .ok (.iload 4, 2) := by decide +kernel
theorem dX6_countLines_63 : decode cX6_countLines 63 = .ok (.iload_n 2, 1) := by decide +kernel
theorem dX6_countLines_64 : decode cX6_countLines 64 = .ok (.if_icmp .eq 45, 3) := by decide +kernel
theorem dX6_countLines_67 : decode cX6_countLines 67 = .ok (.aload_n 0, 1) := by decide +kernel
theorem dX6_countLines_68 : decode cX6_countLines 68 = .ok (.getfield 15, 3) := by decide +kernel
theorem dX6_countLines_71 : decode cX6_countLines 71 = .ok (.iload 4, 2) := by decide +kernel
theorem dX6_countLines_73 : decode cX6_countLines 73 = .ok (.aload_n 0, 1) := by decide +kernel
theorem dX6_countLines_74 : decode cX6_countLines 74 = .ok (.getfield 15, 3) := by decide +kernel
theorem dX6_countLines_77 : decode cX6_countLines 77 = .ok (.aload_n 0, 1) := by decide +kernel
theorem dX6_countLines_78 : decode cX6_countLines 78 = .ok (.getfield 22, 3) := by decide +kernel
theorem dX6_countLines_81 : decode cX6_countLines 81 = .ok (.iload 4, 2) := by decide +kernel
theorem dX6_countLines_83 : decode cX6_countLines 83 = .ok (.invokevirtual 46, 3) := by decide +kernel
theorem dX6_countLines_86 : decode cX6_countLines 86 = .ok (.invokestatic 38, 3) := by decide +kernel
theorem dX6_countLines_89 : decode cX6_countLines 89 = .ok (.aload_n 0, 1) := by decide +kernel
theorem dX6_countLines_90 : decode cX6_countLines 90 = .ok (.getfield 15, 3) := by decide +kernel
theorem dX6_countLines_93 : decode cX6_countLines 93 = .ok (.aload_n 0, 1) := by decide +kernel
theorem dX6_countLines_94 : decode cX6_countLines 94 = .ok (.getfield 22, 3) := by decide +kernel
theorem dX6_countLines_97 : decode cX6_countLines 97 = .ok (.iload 4, 2) := by decide +kernel
theorem dX6_countLines_99 : decode cX6_countLines 99 = .ok (.invokevirtual 50, 3) := by decide +kernel
theorem dX6_countLines_102 : decode cX6_countLines 102 = .ok (.invokestatic 38, 3) := by decide +kernel
theorem dX6_countLines_105 : decode cX6_countLines 105 = .ok (.iadd, 1) := by decide +kernel
theorem dX6_countLines_106 : decode cX6_countLines 106 = .ok (.invokestatic 84, 3) := by decide +kernel
theorem dX6_countLines_109 : decode cX6_countLines 109 = .ok (.iinc 4 1, 3) := by decide +kernel
theorem dX6_countLines_112 : decode cX6_countLines 112 = .ok (.goto (-79), 3) := by decide +kernel
theorem dX6_countLines_115 : decode cX6_countLines 115 = .ok (.iinc 3 1, 3) := by decide +kernel
theorem dX6_countLines_118 : decode cX6_countLines 118 = .ok (.goto (-99), 3) := by decide +kernel
theorem dX6_countLines_121 : decode cX6_countLines 121 = .ok (.aload_n 0, 1) := by decide +kernel
theorem dX6_countLines_122 : decode cX6_countLines 122 = .ok (.getfield 15, 3) := by decide +kernel
theorem dX6_countLines_125 : decode cX6_countLines 125 = .ok (.iload_n 1, 1) := by decide +kernel
theorem dX6_countLines_126 : decode cX6_countLines 126 = .ok (.invokestatic 38, 3) := by decide +kernel
theorem dX6_countLines_129 : decode cX6_countLines 129 = .ok (.ireturn, 1) := by decide +kernel
theorem dX7_init_0 : decode cX7_init 0 = .ok (.aload_n 0, 1) := by decide +kernel
theorem dX7_init_1 : decode cX7_init 1 = .ok (.invokespecial 3, 3) := by decide +kernel
theorem dX7_init_4 : decode cX7_init 4 = .ok (.aload_n 0, 1) := by decide +kernel
theorem dX7_init_5 : decode cX7_init 5 = .ok (.bipush 28, 2) := by decide +kernel
theorem dX7_init_7 : decode cX7_init 7 = .ok (.newarray .int, 2) := by decide +kernel
theorem dX7_init_9 : decode cX7_init 9 = .ok (.putfield 9, 3) := by decide +kernel
theorem dX7_init_12 : decode cX7_init 12 = .ok (.aload_n 0, 1) := by decide +kernel
theorem dX7_init_13 : decode cX7_init 13 = .ok (.bipush 17, 2) := by decide +kernel
theorem dX7_init_15 : decode cX7_init 15 = .ok (.newarray .int, 2) := by decide +kernel
theorem dX7_init_17 : decode cX7_init 17 = .ok (.putfield 15, 3) := by decide +kernel
theorem dX7_init_20 : decode cX7_init 20 = .ok (.aload_n 0, 1) := by decide +kernel
theorem dX7_init_21 : decode cX7_init 21 = .ok (.bipush 28, 2) := by decide +kernel
theorem dX7_init_23 : decode cX7_init 23 = .ok (.newarray .int, 2) := by decide +kernel
theorem dX7_init_25 : decode cX7_init 25 = .ok (.putfield 18, 3) := by decide +kernel
theorem dX7_init_28 : decode cX7_init 28 = .ok (.aload_n 0, 1) := by decide +kernel
theorem dX7_init_29 : decode cX7_init 29 = .ok (.bipush 12, 2) := by decide +kernel
theorem dX7_init_31 : decode cX7_init 31 = .ok (.newarray .int, 2) := by decide +kernel
theorem dX7_init_33 : decode cX7_init 33 = .ok (.putfield 21, 3) := by decide +kernel
theorem dX7_init_36 : decode cX7_init 36 = .ok (.aload_n 0, 1) := by decide +kernel
theorem dX7_init_37 : decode cX7_init 37 = .ok (.bipush 12, 2) := by decide +kernel
theorem dX7_init_39 : decode cX7_init 39 = .ok (.newarray .int, 2) := by decide +kernel
theorem dX7_init_41 : decode cX7_init 41 = .ok (.putfield 24, 3) := by decide +kernel
theorem dX7_init_44 : decode cX7_init 44 = .ok (.aload_n 0, 1) := by decide +kernel
theorem dX7_init_45 : decode cX7_init 45 = .ok (.bipush 28, 2) := by decide +kernel
theorem dX7_init_47 : decode cX7_init 47 = .ok (.newarray .int, 2) := by decide +kernel
theorem dX7_init_49 : decode cX7_init 49 = .ok (.putfield 27, 3) := by decide +kernel
theorem dX7_init_52 : decode cX7_init 52 = .ok (.aload_n 0, 1) := by decide +kernel
theorem dX7_init_53 : decode cX7_init 53 = .ok (.aload_n 1, 1) := by decide +kernel
theorem dX7_init_54 : decode cX7_init 54 = .ok (.putfield 30, 3) := by decide +kernel
theorem dX7_init_57 : decode cX7_init 57 = .ok (.return_, 1) := by decide +kernel
theorem dX7_layPlain_0 : decode cX7_layPlain 0 = .ok (.aload_n 0, 1) := by decide +kernel
theorem dX7_layPlain_1 : decode cX7_layPlain 1 = .ok (.invokevirtual 34, 3) := by decide +kernel
theorem dX7_layPlain_4 : decode cX7_layPlain 4 = .ok (.iconst 0, 1) := by decide +kernel
theorem dX7_layPlain_5 : decode cX7_layPlain 5 = .ok (.istore_n 1, 1) := by decide +kernel
theorem dX7_layPlain_6 : decode cX7_layPlain 6 = .ok (.iconst 0, 1) := by decide +kernel
theorem dX7_layPlain_7 : decode cX7_layPlain 7 = .ok (.istore_n 2, 1) := by decide +kernel
theorem dX7_layPlain_8 : decode cX7_layPlain 8 = .ok (.iload_n 2, 1) := by decide +kernel
theorem dX7_layPlain_9 : decode cX7_layPlain 9 = .ok (.aload_n 0, 1) := by decide +kernel
theorem dX7_layPlain_10 : decode cX7_layPlain 10 = .ok (.getfield 30, 3) := by decide +kernel
theorem dX7_layPlain_13 : decode cX7_layPlain 13 = .ok (.getfield 37, 3) := by decide +kernel
theorem dX7_layPlain_16 : decode cX7_layPlain 16 = .ok (.if_icmp .ge 25, 3) := by decide +kernel
theorem dX7_layPlain_19 : decode cX7_layPlain 19 = .ok (.aload_n 0, 1) := by decide +kernel
theorem dX7_layPlain_20 : decode cX7_layPlain 20 = .ok (.getfield 15, 3) := by decide +kernel
theorem dX7_layPlain_23 : decode cX7_layPlain 23 = .ok (.iload_n 2, 1) := by decide +kernel
theorem dX7_layPlain_24 : decode cX7_layPlain 24 = .ok (.iload_n 1, 1) := by decide +kernel
theorem dX7_layPlain_25 : decode cX7_layPlain 25 = .ok (.invokestatic 43, 3) := by decide +kernel
theorem dX7_layPlain_28 : decode cX7_layPlain 28 = .ok (.aload_n 0, 1) := by decide +kernel
theorem dX7_layPlain_29 : decode cX7_layPlain 29 = .ok (.iload_n 2, 1) := by decide +kernel
theorem dX7_layPlain_30 : decode cX7_layPlain 30 = .ok (.iload_n 1, 1) := by decide +kernel
theorem dX7_layPlain_31 : decode cX7_layPlain 31 = .ok (.invokevirtual 47, 3) := by decide +kernel
theorem dX7_layPlain_34 : decode cX7_layPlain 34 = .ok (.istore_n 1, 1) := by decide +kernel
theorem dX7_layPlain_35 : decode cX7_layPlain 35 = .ok (.iinc 2 1, 3) := by decide +kernel
theorem dX7_layPlain_38 : decode cX7_layPlain 38 = .ok (.goto (-30), 3) := by decide +kernel
theorem dX7_layPlain_41 : decode cX7_layPlain 41 = .ok (.aload_n 0, 1) := by decide +kernel
theorem dX7_layPlain_42 : decode cX7_layPlain 42 = .ok (.getfield 15, 3) := by decide +kernel
theorem dX7_layPlain_45 : decode cX7_layPlain 45 = .ok (.aload_n 0, 1) := by decide +kernel
theorem dX7_layPlain_46 : decode cX7_layPlain 46 = .ok (.getfield 30, 3) := by decide +kernel
theorem dX7_layPlain_49 : decode cX7_layPlain 49 = .ok (.getfield 37, 3) := by decide +kernel
theorem dX7_layPlain_52 : decode cX7_layPlain 52 = .ok (.iload_n 1, 1) := by decide +kernel
theorem dX7_layPlain_53 : decode cX7_layPlain 53 = .ok (.invokestatic 43, 3) := by decide +kernel
theorem dX7_layPlain_56 : decode cX7_layPlain 56 = .ok (.aload_n 0, 1) := by decide +kernel
theorem dX7_layPlain_57 : decode cX7_layPlain 57 = .ok (.invokevirtual 51, 3) := by decide +kernel
theorem dX7_layPlain_60 : decode cX7_layPlain 60 = .ok (.return_, 1) := by decide +kernel
theorem dX7_noteBoxesOfUnions_0 : decode cX7_noteBoxesOfUnions 0 = .ok (.iconst 0, 1) := by decide +kernel
theorem dX7_noteBoxesOfUnions_1 : decode cX7_noteBoxesOfUnions 1 = .ok (.istore_n 1, 1) := by decide +kernel
theorem dX7_noteBoxesOfUnions_2 : decode cX7_noteBoxesOfUnions 2 = .ok (.iload_n 1, 1) := by decide +kernel
theorem dX7_noteBoxesOfUnions_3 : decode cX7_noteBoxesOfUnions 3 = .ok (.aload_n 0, 1) := by decide +kernel
theorem dX7_noteBoxesOfUnions_4 : decode cX7_noteBoxesOfUnions 4 = .ok (.getfield 30, 3) := by decide +kernel
theorem dX7_noteBoxesOfUnions_7 : decode cX7_noteBoxesOfUnions 7 = .ok (.getfield 54, 3) := by decide +kernel
theorem dX7_noteBoxesOfUnions_10 : decode cX7_noteBoxesOfUnions 10 = .ok (.if_icmp .ge 90, 3) := by decide +kernel
theorem dX7_noteBoxesOfUnions_13 : decode cX7_noteBoxesOfUnions 13 = .ok (.aload_n 0, 1) := by decide +kernel
theorem dX7_noteBoxesOfUnions_14 : decode cX7_noteBoxesOfUnions 14 = .ok (.getfield 30, 3) := by decide +kernel
theorem dX7_noteBoxesOfUnions_17 : decode cX7_noteBoxesOfUnions 17 = .ok (.getfield 57, 3) := by decide +kernel
theorem dX7_noteBoxesOfUnions_20 : decode cX7_noteBoxesOfUnions 20 = .ok (.iload_n 1, 1) := by decide +kernel
theorem dX7_noteBoxesOfUnions_21 : decode cX7_noteBoxesOfUnions 21 = .ok (.invokestatic 60, 3) := by decide +kernel
theorem dX7_noteBoxesOfUnions_24 : decode cX7_noteBoxesOfUnions 24 = .ok (.istore_n 2, 1) := by decide +kernel
theorem dX7_noteBoxesOfUnions_25 : decode cX7_noteBoxesOfUnions 25 = .ok (.aload_n 0, 1) := by decide +kernel
theorem dX7_noteBoxesOfUnions_26 : decode cX7_noteBoxesOfUnions 26 = .ok (.getfield 30, 3) := by decide +kernel
theorem dX7_noteBoxesOfUnions_29 : decode cX7_noteBoxesOfUnions 29 = .ok (.getfield 64, 3) := by decide +kernel
theorem dX7_noteBoxesOfUnions_32 : decode cX7_noteBoxesOfUnions 32 = .ok (.iload_n 1, 1) := by decide +kernel
theorem dX7_noteBoxesOfUnions_33 : decode cX7_noteBoxesOfUnions 33 = .ok (.invokestatic 60, 3) := by decide +kernel
theorem dX7_noteBoxesOfUnions_36 : decode cX7_noteBoxesOfUnions 36 = .ok (.istore_n 3, 1) := by decide +kernel
theorem dX7_noteBoxesOfUnions_37 : decode cX7_noteBoxesOfUnions 37 = .ok (.aload_n 0, 1) := by decide +kernel
theorem dX7_noteBoxesOfUnions_38 : decode cX7_noteBoxesOfUnions 38 = .ok (.getfield 30, 3) := by decide +kernel
theorem dX7_noteBoxesOfUnions_41 : decode cX7_noteBoxesOfUnions 41 = .ok (.getfield 67, 3) := by decide +kernel
theorem dX7_noteBoxesOfUnions_44 : decode cX7_noteBoxesOfUnions 44 = .ok (.iload_n 1, 1) := by decide +kernel
theorem dX7_noteBoxesOfUnions_45 : decode cX7_noteBoxesOfUnions 45 = .ok (.invokestatic 60, 3) := by decide +kernel
theorem dX7_noteBoxesOfUnions_48 : decode cX7_noteBoxesOfUnions 48 = .ok (.istore 4, 2) := by decide +kernel
theorem dX7_noteBoxesOfUnions_50 : decode cX7_noteBoxesOfUnions 50 = .ok (.aload_n 0, 1) := by decide +kernel
theorem dX7_noteBoxesOfUnions_51 : decode cX7_noteBoxesOfUnions 51 = .ok (.getfield 21, 3) := by decide +kernel
theorem dX7_noteBoxesOfUnions_54 : decode cX7_noteBoxesOfUnions 54 = .ok (.iload_n 1, 1) := by decide +kernel
theorem dX7_noteBoxesOfUnions_55 : decode cX7_noteBoxesOfUnions 55 = .ok (.iload_n 3, 1) := by decide +kernel
theorem dX7_noteBoxesOfUnions_56 : decode cX7_noteBoxesOfUnions 56 = .ok (.iload_n 2, 1) := by decide +kernel
theorem dX7_noteBoxesOfUnions_57 : decode cX7_noteBoxesOfUnions 57 = .ok (.if_icmp .ne 10, 3) := by decide +kernel
theorem dX7_noteBoxesOfUnions_60 : decode cX7_noteBoxesOfUnions 60 = .ok (.bipush 16, 2) := by decide +kernel
theorem dX7_noteBoxesOfUnions_62 : decode cX7_noteBoxesOfUnions 62 = .ok (.iload_n 1, 1) := by decide +kernel
theorem dX7_noteBoxesOfUnions_63 : decode cX7_noteBoxesOfUnions 63 = .ok (.iadd, 1) := by decide +kernel
theorem dX7_noteBoxesOfUnions_64 : decode cX7_noteBoxesOfUnions 64 = .ok (.goto 4, 3) := by decide +kernel
theorem dX7_noteBoxesOfUnions_67 : decode cX7_noteBoxesOfUnions 67 = .ok (.iload_n 3, 1) := by decide +kernel
theorem dX7_noteBoxesOfUnions_68 : decode cX7_noteBoxesOfUnions 68 = .ok (.invokestatic 43, 3) := by decide +kernel
theorem dX7_noteBoxesOfUnions_71 : decode cX7_noteBoxesOfUnions 71 = .ok (.aload_n 0, 1) := by decide +kernel
theorem dX7_noteBoxesOfUnions_72 : decode cX7_noteBoxesOfUnions 72 = .ok (.getfield 24, 3) := by decide +kernel
theorem dX7_noteBoxesOfUnions_75 : decode cX7_noteBoxesOfUnions 75 = .ok (.iload_n 1, 1) := by decide +kernel
theorem dX7_noteBoxesOfUnions_76 : decode cX7_noteBoxesOfUnions 76 = .ok (.iload 4, 2) := by decide +kernel
theorem dX7_noteBoxesOfUnions_78 : decode cX7_noteBoxesOfUnions 78 = .ok (.iload_n 2, 1) := by decide +kernel
theorem dX7_noteBoxesOfUnions_79 : decode cX7_noteBoxesOfUnions 79 = .ok (.if_icmp .ne 10, 3) := by decide +kernel
theorem dX7_noteBoxesOfUnions_82 : decode cX7_noteBoxesOfUnions 82 = .ok (.bipush 16, 2) := by decide +kernel
theorem dX7_noteBoxesOfUnions_84 : decode cX7_noteBoxesOfUnions 84 = .ok (.iload_n 1, 1) := by decide +kernel
theorem dX7_noteBoxesOfUnions_85 : decode cX7_noteBoxesOfUnions 85 = .ok (.iadd, 1) := by decide +kernel
theorem dX7_noteBoxesOfUnions_86 : decode cX7_noteBoxesOfUnions 86 = .ok (.goto 5, 3) := by decide +kernel
theorem dX7_noteBoxesOfUnions_89 : decode cX7_noteBoxesOfUnions 89 = .ok (.iload 4, 2) := by decide +kernel
theorem dX7_noteBoxesOfUnions_91 : decode cX7_noteBoxesOfUnions 91 = .ok (.invokestatic 43, 3) := by decide +kernel
theorem dX7_noteBoxesOfUnions_94 : decode cX7_noteBoxesOfUnions 94 = .ok (.iinc 1 1, 3) := by decide +kernel
theorem dX7_noteBoxesOfUnions_97 : decode cX7_noteBoxesOfUnions 97 = .ok (.goto (-95), 3) := by decide +kernel
theorem dX7_noteBoxesOfUnions_100 : decode cX7_noteBoxesOfUnions 100 = .ok (.return_, 1) := by decide +kernel
theorem dX7_layRow_0 : decode cX7_layRow 0 = .ok (.iload_n 2, 1) := by decide +kernel
theorem dX7_layRow_1 : decode cX7_layRow 1 = .ok (.istore_n 3, 1) := by decide +kernel
theorem dX7_layRow_2 : decode cX7_layRow 2 = .ok (.iconst 0, 1) := by decide +kernel
theorem dX7_layRow_3 : decode cX7_layRow 3 = .ok (.istore 4, 2) := by decide +kernel
theorem dX7_layRow_5 : decode cX7_layRow 5 = .ok (.iload 4, 2) := by decide +kernel
theorem dX7_layRow_7 : decode cX7_layRow 7 = .ok (.aload_n 0, 1) := by decide +kernel
theorem dX7_layRow_8 : decode cX7_layRow 8 = .ok (.getfield 30, 3) := by decide +kernel
theorem dX7_layRow_11 : decode cX7_layRow 11 = .ok (.getfield 70, 3) := by decide +kernel
theorem dX7_layRow_14 : decode cX7_layRow 14 = .ok (.if_icmp .ge 38, 3) := by decide +kernel
theorem dX7_layRow_17 : decode cX7_layRow 17 = .ok (.aload_n 0, 1) := by decide +kernel
theorem dX7_layRow_18 : decode cX7_layRow 18 = .ok (.getfield 30, 3) := by decide +kernel
theorem dX7_layRow_21 : decode cX7_layRow 21 = .ok (.getfield 73, 3) := by decide +kernel
theorem dX7_layRow_24 : decode cX7_layRow 24 = .ok (.iload 4, 2) := by decide +kernel
theorem dX7_layRow_26 : decode cX7_layRow 26 = .ok (.invokestatic 60, 3) := by decide +kernel
theorem dX7_layRow_29 : decode cX7_layRow 29 = .ok (.iload_n 1, 1) := by decide +kernel
theorem dX7_layRow_30 : decode cX7_layRow 30 = .ok (.if_icmp .ne 16, 3) := by decide +kernel
theorem dX7_layRow_33 : decode cX7_layRow 33 = .ok (.aload_n 0, 1) := by decide +kernel
theorem dX7_layRow_34 : decode cX7_layRow 34 = .ok (.getfield 9, 3) := by decide +kernel
theorem dX7_layRow_37 : decode cX7_layRow 37 = .ok (.iload_n 3, 1) := by decide +kernel
theorem dX7_layRow_38 : decode cX7_layRow 38 = .ok (.iload 4, 2) := by decide +kernel
theorem dX7_layRow_40 : decode cX7_layRow 40 = .ok (.invokestatic 43, 3) := by decide +kernel
theorem dX7_layRow_43 : decode cX7_layRow 43 = .ok (.iinc 3 1, 3) := by decide +kernel
theorem dX7_layRow_46 : decode cX7_layRow 46 = .ok (.iinc 4 1, 3) := by decide +kernel
theorem dX7_layRow_49 : decode cX7_layRow 49 = .ok (.goto (-44), 3) := by decide +kernel
theorem dX7_layRow_52 : decode cX7_layRow 52 = .ok (.iconst 0, 1) := by decide +kernel
theorem dX7_layRow_53 : decode cX7_layRow 53 = .ok (.istore 4, 2) := by decide +kernel
theorem dX7_layRow_55 : decode cX7_layRow 55 = .ok (.iload 4, 2) := by decide +kernel
theorem dX7_layRow_57 : decode cX7_layRow 57 = .ok (.aload_n 0, 1) := by decide +kernel
theorem dX7_layRow_58 : decode cX7_layRow 58 = .ok (.getfield 30, 3) := by decide +kernel
theorem dX7_layRow_61 : decode cX7_layRow 61 = .ok (.getfield 54, 3) := by decide +kernel
theorem dX7_layRow_64 : decode cX7_layRow 64 = .ok (.if_icmp .ge 57, 3) := by decide +kernel
theorem dX7_layRow_67 : decode cX7_layRow 67 = .ok (.aload_n 0, 1) := by decide +kernel
theorem dX7_layRow_68 : decode cX7_layRow 68 = .ok (.getfield 30, 3) := by decide +kernel
theorem dX7_layRow_71 : decode cX7_layRow 71 = .ok (.getfield 76, 3) := by decide +kernel
theorem dX7_layRow_74 : decode cX7_layRow 74 = .ok (.iload 4, 2) := by decide +kernel
theorem dX7_layRow_76 : decode cX7_layRow 76 = .ok (.invokestatic 60, 3) := by decide +kernel
theorem dX7_layRow_79 : decode cX7_layRow 79 = .ok (.iload_n 1, 1) := by decide +kernel
theorem dX7_layRow_80 : decode cX7_layRow 80 = .ok (.if_icmp .ne 35, 3) := by decide +kernel
theorem dX7_layRow_83 : decode cX7_layRow 83 = .ok (.aload_n 0, 1) := by decide +kernel
theorem dX7_layRow_84 : decode cX7_layRow 84 = .ok (.getfield 30, 3) := by decide +kernel
theorem dX7_layRow_87 : decode cX7_layRow 87 = .ok (.getfield 57, 3) := by decide +kernel
theorem dX7_layRow_90 : decode cX7_layRow 90 = .ok (.iload 4, 2) := by decide +kernel
theorem dX7_layRow_92 : decode cX7_layRow 92 = .ok (.invokestatic 60, 3) := by decide +kernel
theorem dX7_layRow_95 : decode cX7_layRow 95 = .ok (.iconst (-1), 1) := by decide +kernel
theorem dX7_layRow_96 : decode cX7_layRow 96 = .ok (.if_icmp .eq 19, 3) := by decide +kernel
theorem dX7_layRow_99 : decode cX7_layRow 99 = .ok (.aload_n 0, 1) := by decide +kernel
theorem dX7_layRow_100 : decode cX7_layRow 100 = .ok (.getfield 9, 3) := by decide +kernel
theorem dX7_layRow_103 : decode cX7_layRow 103 = .ok (.iload_n 3, 1) := by decide +kernel
theorem dX7_layRow_104 : decode cX7_layRow 104 = .ok (.bipush 16, 2) := by decide +kernel
theorem dX7_layRow_106 : decode cX7_layRow 106 = .ok (.iload 4, 2) := by decide +kernel
theorem dX7_layRow_108 : decode cX7_layRow 108 = .ok (.iadd, 1) := by decide +kernel
theorem dX7_layRow_109 : decode cX7_layRow 109 = .ok (.invokestatic 43, 3) := by decide +kernel
theorem dX7_layRow_112 : decode cX7_layRow 112 = .ok (.iinc 3 1, 3) := by decide +kernel
theorem dX7_layRow_115 : decode cX7_layRow 115 = .ok (.iinc 4 1, 3) := by decide +kernel
theorem dX7_layRow_118 : decode cX7_layRow 118 = .ok (.goto (-63), 3) := by decide +kernel
theorem dX7_layRow_121 : decode cX7_layRow 121 = .ok (.iload_n 3, 1) := by decide +kernel
theorem dX7_layRow_122 : decode cX7_layRow 122 = .ok (.ireturn, 1) := by decide +kernel
theorem dX7_notePlaces_0 : decode cX7_notePlaces 0 = .ok (.iconst 0, 1) := by decide +kernel
theorem dX7_notePlaces_1 : decode cX7_notePlaces 1 = .ok (.istore_n 1, 1) := by decide +kernel
theorem dX7_notePlaces_2 : decode cX7_notePlaces 2 = .ok (.iload_n 1, 1) := by decide +kernel
theorem dX7_notePlaces_3 : decode cX7_notePlaces 3 = .ok (.aload_n 0, 1) := by decide +kernel
theorem dX7_notePlaces_4 : decode cX7_notePlaces 4 = .ok (.getfield 30, 3) := by decide +kernel
theorem dX7_notePlaces_7 : decode cX7_notePlaces 7 = .ok (.getfield 37, 3) := by decide +kernel
theorem dX7_notePlaces_10 : decode cX7_notePlaces 10 = .ok (.if_icmp .ge 40, 3) := by decide +kernel
theorem dX7_notePlaces_13 : decode cX7_notePlaces 13 = .ok (.iconst 0, 1) := by decide +kernel
theorem dX7_notePlaces_14 : decode cX7_notePlaces 14 = .ok (.istore_n 2, 1) := by decide +kernel
theorem dX7_notePlaces_15 : decode cX7_notePlaces 15 = .ok (.iload_n 2, 1) := by decide +kernel
theorem dX7_notePlaces_16 : decode cX7_notePlaces 16 = .ok (.aload_n 0, 1) := by decide +kernel
theorem dX7_notePlaces_17 : decode cX7_notePlaces 17 = .ok (.iload_n 1, 1) := by decide +kernel
theorem dX7_notePlaces_18 : decode cX7_notePlaces 18 = .ok (.invokevirtual 79, 3) := by decide +kernel
theorem dX7_notePlaces_21 : decode cX7_notePlaces 21 = .ok (.if_icmp .ge 23, 3) := by decide +kernel
theorem dX7_notePlaces_24 : decode cX7_notePlaces 24 = .ok (.aload_n 0, 1) := by decide +kernel
theorem dX7_notePlaces_25 : decode cX7_notePlaces 25 = .ok (.getfield 18, 3) := by decide +kernel
theorem dX7_notePlaces_28 : decode cX7_notePlaces 28 = .ok (.aload_n 0, 1) := by decide +kernel
theorem dX7_notePlaces_29 : decode cX7_notePlaces 29 = .ok (.iload_n 1, 1) := by decide +kernel
theorem dX7_notePlaces_30 : decode cX7_notePlaces 30 = .ok (.iload_n 2, 1) := by decide +kernel
theorem dX7_notePlaces_31 : decode cX7_notePlaces 31 = .ok (.invokevirtual 83, 3) := by decide +kernel
theorem dX7_notePlaces_34 : decode cX7_notePlaces 34 = .ok (.iload_n 2, 1) := by decide +kernel
theorem dX7_notePlaces_35 : decode cX7_notePlaces 35 = .ok (.invokestatic 43, 3) := by decide +kernel
theorem dX7_notePlaces_38 : decode cX7_notePlaces 38 = .ok (.iinc 2 1, 3) := by decide +kernel
theorem dX7_notePlaces_41 : decode cX7_notePlaces 41 = .ok (.goto (-26), 3) := by decide +kernel
theorem dX7_notePlaces_44 : decode cX7_notePlaces 44 = .ok (.iinc 1 1, 3) := by decide +kernel
theorem dX7_notePlaces_47 : decode cX7_notePlaces 47 = .ok (.goto (-45), 3) := by decide +kernel
theorem dX7_notePlaces_50 : decode cX7_notePlaces 50 = .ok (.return_, 1) := by decide +kernel
theorem dX7_saveOrder_0 : decode cX7_saveOrder 0 = .ok (.aload_n 0, 1) := by decide +kernel
theorem dX7_saveOrder_1 : decode cX7_saveOrder 1 = .ok (.getfield 9, 3) := by decide +kernel
theorem dX7_saveOrder_4 : decode cX7_saveOrder 4 = .ok (.iconst 0, 1) := by decide +kernel
theorem dX7_saveOrder_5 : decode cX7_saveOrder 5 = .ok (.aload_n 1, 1) := by decide +kernel
theorem dX7_saveOrder_6 : decode cX7_saveOrder 6 = .ok (.iload_n 2, 1) := by decide +kernel
theorem dX7_saveOrder_7 : decode cX7_saveOrder 7 = .ok (.bipush 28, 2) := by decide +kernel
theorem dX7_saveOrder_9 : decode cX7_saveOrder 9 = .ok (.invokestatic 86, 3) := by decide +kernel
theorem dX7_saveOrder_12 : decode cX7_saveOrder 12 = .ok (.return_, 1) := by decide +kernel
