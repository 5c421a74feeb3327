theorem dX10_inRow_80 : decode cX10_inRow 80 = .ok (.istore 6, 2) := by decide +kernel
theorem dX10_inRow_82 : decode cX10_inRow 82 = .ok (.aload_n 0, 1) := by decide +kernel
theorem dX10_inRow_83 : decode cX10_inRow 83 = .ok (.iload 4, 2) := by decide +kernel
theorem dX10_inRow_85 : decode cX10_inRow 85 = .ok (.iconst 0, 1) := by decide +kernel
theorem dX10_inRow_86 : decode cX10_inRow 86 = .ok (.invokevirtual 89, 3) := by decide +kernel
theorem dX10_inRow_89 : decode cX10_inRow 89 = .ok (.aload_n 0, 1) := by decide +kernel
theorem dX10_inRow_90 : decode cX10_inRow 90 = .ok (.iload 4, 2) := by decide +kernel
theorem dX10_inRow_92 : decode cX10_inRow 92 = .ok (.iconst 1, 1) := by decide +kernel
theorem dX10_inRow_93 : decode cX10_inRow 93 = .ok (.invokevirtual 89, 3) := by decide +kernel
theorem dX10_inRow_96 : decode cX10_inRow 96 = .ok (.invokestatic 92, 3) := by decide +kernel
theorem dX10_inRow_99 : decode cX10_inRow 99 = .ok (.istore 7, 2) := by decide +kernel
theorem dX10_inRow_101 : decode cX10_inRow 101 = .ok (.aload_n 0, 1) := by decide +kernel
theorem dX10_inRow_102 : decode cX10_inRow 102 = .ok (.iload 4, 2) := by decide +kernel
theorem dX10_inRow_104 : decode cX10_inRow 104 = .ok (.iconst 0, 1) := by decide +kernel
theorem dX10_inRow_105 : decode cX10_inRow 105 = .ok (.invokevirtual 89, 3) := by decide +kernel
theorem dX10_inRow_108 : decode cX10_inRow 108 = .ok (.aload_n 0, 1) := by decide +kernel
theorem dX10_inRow_109 : decode cX10_inRow 109 = .ok (.iload 4, 2) := by decide +kernel
theorem dX10_inRow_111 : decode cX10_inRow 111 = .ok (.iconst 1, 1) := by decide +kernel
theorem dX10_inRow_112 : decode cX10_inRow 112 = .ok (.invokevirtual 89, 3) := by decide +kernel
theorem dX10_inRow_115 : decode cX10_inRow 115 = .ok (.invokestatic 63, 3) := by decide +kernel
theorem dX10_inRow_118 : decode cX10_inRow 118 = .ok (.istore 8, 2) := by decide +kernel
theorem dX10_inRow_120 : decode cX10_inRow 120 = .ok (.iload 5, 2) := by decide +kernel
theorem dX10_inRow_122 : decode cX10_inRow 122 = .ok (.iload 7, 2) := by decide +kernel
theorem dX10_inRow_124 : decode cX10_inRow 124 = .ok (.if_icmp .ge 17, 3) := by decide +kernel
theorem dX10_inRow_127 : decode cX10_inRow 127 = .ok (.iload 7, 2) := by decide +kernel
theorem dX10_inRow_129 : decode cX10_inRow 129 = .ok (.iload 6, 2) := by decide +kernel
theorem dX10_inRow_131 : decode cX10_inRow 131 = .ok (.if_icmp .ge 10, 3) := by decide +kernel
theorem dX10_inRow_134 : decode cX10_inRow 134 = .ok (.iload 6, 2) := by decide +kernel
theorem dX10_inRow_136 : decode cX10_inRow 136 = .ok (.iload 8, 2) := by decide +kernel
theorem dX10_inRow_138 : decode cX10_inRow 138 = .ok (.if_icmp .lt 24, 3) := by decide +kernel
theorem dX10_inRow_141 : decode cX10_inRow 141 = .ok (.iload 7, 2) := by decide +kernel
theorem dX10_inRow_143 : decode cX10_inRow 143 = .ok (.iload 5, 2) := by decide +kernel
theorem dX10_inRow_145 : decode cX10_inRow 145 = .ok (.if_icmp .ge 20, 3) := by decide +kernel
theorem dX10_inRow_148 : decode cX10_inRow 148 = .ok (.iload 5, 2) := by decide +kernel
theorem dX10_inRow_150 : decode cX10_inRow 150 = .ok (.iload 8, 2) := by decide +kernel
theorem dX10_inRow_152 : decode cX10_inRow 152 = .ok (.if_icmp .ge 13, 3) := by decide +kernel
theorem dX10_inRow_155 : decode cX10_inRow 155 = .ok (.iload 8, 2) := by decide +kernel
theorem dX10_inRow_157 : decode cX10_inRow 157 = .ok (.iload 6, 2) := by decide +kernel
theorem dX10_inRow_159 : decode cX10_inRow 159 = .ok (.if_icmp .ge 6, 3) := by decide +kernel
theorem dX10_inRow_162 : decode cX10_inRow 162 = .ok (.iinc 2 1, 3) := by decide +kernel
theorem dX10_inRow_165 : decode cX10_inRow 165 = .ok (.iinc 4 1, 3) := by decide +kernel
theorem dX10_inRow_168 : decode cX10_inRow 168 = .ok (.goto (-151), 3) := by decide +kernel
theorem dX10_inRow_171 : decode cX10_inRow 171 = .ok (.iinc 3 1, 3) := by decide +kernel
theorem dX10_inRow_174 : decode cX10_inRow 174 = .ok (.goto (-170), 3) := by decide +kernel
theorem dX10_inRow_177 : decode cX10_inRow 177 = .ok (.iload_n 2, 1) := by decide +kernel
theorem dX10_inRow_178 : decode cX10_inRow 178 = .ok (.ireturn, 1) := by decide +kernel
theorem dX10_below_0 : decode cX10_below 0 = .ok (.iconst 0, 1) := by decide +kernel
theorem dX10_below_1 : decode cX10_below 1 = .ok (.istore_n 2, 1) := by decide +kernel
theorem dX10_below_2 : decode cX10_below 2 = .ok (.iconst 0, 1) := by decide +kernel
theorem dX10_below_3 : decode cX10_below 3 = .ok (.istore_n 3, 1) := by decide +kernel
theorem dX10_below_4 : decode cX10_below 4 = .ok (.iload_n 3, 1) := by decide +kernel
theorem dX10_below_5 : decode cX10_below 5 = .ok (.aload_n 0, 1) := by decide +kernel
theorem dX10_below_6 : decode cX10_below 6 = .ok (.getfield 42, 3) := by decide +kernel
theorem dX10_below_9 : decode cX10_below 9 = .ok (.if_icmp .ge 125, 3) := by decide +kernel
theorem dX10_below_12 : decode cX10_below 12 = .ok (.iconst 0, 1) := by decide +kernel
theorem dX10_below_13 : decode cX10_below 13 = .ok (.istore 4, 2) := by decide +kernel
theorem dX10_below_15 : decode cX10_below 15 = .ok (.iload 4, 2) := by decide +kernel
theorem dX10_below_17 : decode cX10_below 17 = .ok (.aload_n 0, 1) := by decide +kernel
theorem dX10_below_18 : decode cX10_below 18 = .ok (.getfield 42, 3) := by decide +kernel
theorem dX10_below_21 : decode cX10_below 21 = .ok (.if_icmp .ge 107, 3) := by decide +kernel
theorem dX10_below_24 : decode cX10_below 24 = .ok (.aload_n 0, 1) := by decide +kernel
theorem dX10_below_25 : decode cX10_below 25 = .ok (.getfield 13, 3) := by decide +kernel
theorem dX10_below_28 : decode cX10_below 28 = .ok (.iload_n 3, 1) := by decide +kernel
theorem dX10_below_29 : decode cX10_below 29 = .ok (.iaload, 1) := by decide +kernel
theorem dX10_below_30 : decode cX10_below 30 = .ok (.ifCond .lt 92, 3) := by decide +kernel
theorem dX10_below_33 : decode cX10_below 33 = .ok (.aload_n 0, 1) := by decide +kernel
theorem dX10_below_34 : decode cX10_below 34 = .ok (.getfield 13, 3) := by decide +kernel
theorem dX10_below_37 : decode cX10_below 37 = .ok (.iload 4, 2) := by decide +kernel
theorem dX10_below_39 : decode cX10_below 39 = .ok (.iaload, 1) := by decide +kernel
theorem dX10_below_40 : decode cX10_below 40 = .ok (.ifCond .lt 82, 3) := by decide +kernel
theorem dX10_below_43 : decode cX10_below 43 = .ok (.aload_n 0, 1) := by decide +kernel
theorem dX10_below_44 : decode cX10_below 44 = .ok (.aload_n 0, 1) := by decide +kernel
theorem dX10_below_45 : decode cX10_below 45 = .ok (.getfield 13, 3) := by decide +kernel
theorem dX10_below_48 : decode cX10_below 48 = .ok (.iload_n 3, 1) := by decide +kernel
theorem dX10_below_49 : decode cX10_below 49 = .ok (.iaload, 1) := by decide +kernel
theorem dX10_below_50 : decode cX10_below 50 = .ok (.invokevirtual 72, 3) := by decide +kernel
theorem dX10_below_53 : decode cX10_below 53 = .ok (.iload_n 1, 1) := by decide +kernel
theorem dX10_below_54 : decode cX10_below 54 = .ok (.if_icmp .ne 68, 3) := by decide +kernel
theorem dX10_below_57 : decode cX10_below 57 = .ok (.aload_n 0, 1) := by decide +kernel
theorem dX10_below_58 : decode cX10_below 58 = .ok (.aload_n 0, 1) := by decide +kernel
theorem dX10_below_59 : decode cX10_below 59 = .ok (.getfield 13, 3) := by decide +kernel
theorem dX10_below_62 : decode cX10_below 62 = .ok (.iload 4, 2) := by decide +kernel
theorem dX10_below_64 : decode cX10_below 64 = .ok (.iaload, 1) := by decide +kernel
theorem dX10_below_65 : decode cX10_below 65 = .ok (.invokevirtual 72, 3) := by decide +kernel
theorem dX10_below_68 : decode cX10_below 68 = .ok (.iload_n 1, 1) := by decide +kernel
theorem dX10_below_69 : decode cX10_below 69 = .ok (.if_icmp .eq 6, 3) := by decide +kernel
theorem dX10_below_72 : decode cX10_below 72 = .ok (.goto 50, 3) := by decide +kernel
theorem dX10_below_75 : decode cX10_below 75 = .ok (.aload_n 0, 1) := by decide +kernel
theorem dX10_below_76 : decode cX10_below 76 = .ok (.aload_n 0, 1) := by decide +kernel
theorem dX10_below_77 : decode cX10_below 77 = .ok (.getfield 13, 3) := by decide +kernel
theorem dX10_below_80 : decode cX10_below 80 = .ok (.iload_n 3, 1) := by decide +kernel
theorem dX10_below_81 : decode cX10_below 81 = .ok (.iaload, 1) := by decide +kernel
theorem dX10_below_82 : decode cX10_below 82 = .ok (.invokevirtual 95, 3) := by decide +kernel
theorem dX10_below_85 : decode cX10_below 85 = .ok (.aload_n 0, 1) := by decide +kernel
theorem dX10_below_86 : decode cX10_below 86 = .ok (.aload_n 0, 1) := by decide +kernel
theorem dX10_below_87 : decode cX10_below 87 = .ok (.getfield 13, 3) := by decide +kernel
theorem dX10_below_90 : decode cX10_below 90 = .ok (.iload 4, 2) := by decide +kernel
theorem dX10_below_92 : decode cX10_below 92 = .ok (.iaload, 1) := by decide +kernel
theorem dX10_below_93 : decode cX10_below 93 = .ok (.invokevirtual 95, 3) := by decide +kernel
theorem dX10_below_96 : decode cX10_below 96 = .ok (.if_icmp .ge 26, 3) := by decide +kernel
theorem dX10_below_99 : decode cX10_below 99 = .ok (.aload_n 0, 1) := by decide +kernel
theorem dX10_below_100 : decode cX10_below 100 = .ok (.iload_n 1, 1) := by decide +kernel
theorem dX10_below_101 : decode cX10_below 101 = .ok (.iconst 1, 1) := by decide +kernel
theorem dX10_below_102 : decode cX10_below 102 = .ok (.iadd, 1) := by decide +kernel
theorem dX10_below_103 : decode cX10_below 103 = .ok (.iload_n 3, 1) := by decide +kernel
theorem dX10_below_104 : decode cX10_below 104 = .ok (.invokevirtual 86, 3) := by decide +kernel
theorem dX10_below_107 : decode cX10_below 107 = .ok (.aload_n 0, 1) := by decide +kernel
theorem dX10_below_108 : decode cX10_below 108 = .ok (.iload_n 1, 1) := by decide +kernel
theorem dX10_below_109 : decode cX10_below 109 = .ok (.iconst 1, 1) := by decide +kernel
theorem dX10_below_110 : decode cX10_below 110 = .ok (.iadd, 1) := by decide +kernel
theorem dX10_below_111 : decode cX10_below 111 = .ok (.iload 4, 2) := by decide +kernel
theorem dX10_below_113 : decode cX10_below 113 = .ok (.invokevirtual 86, 3) := by decide +kernel
theorem dX10_below_116 : decode cX10_below 116 = .ok (.if_icmp .le 6, 3) := by decide +kernel
theorem dX10_below_119 : decode cX10_below 119 = .ok (.iinc 2 1, 3) := by decide +kernel
theorem dX10_below_122 : decode cX10_below 122 = .ok (.iinc 4 1, 3) := by decide +kernel
theorem dX10_below_125 : decode cX10_below 125 = .ok (.goto (-110), 3) := by decide +kernel
theorem dX10_below_128 : decode cX10_below 128 = .ok (.iinc 3 1, 3) := by decide +kernel
theorem dX10_below_131 : decode cX10_below 131 = .ok (.goto (-127), 3) := by decide +kernel
theorem dX10_below_134 : decode cX10_below 134 = .ok (.iload_n 2, 1) := by decide +kernel
theorem dX10_below_135 : decode cX10_below 135 = .ok (.ireturn, 1) := by decide +kernel
theorem dX10_all_0 : decode cX10_all 0 = .ok (.iconst 0, 1) := by decide +kernel
theorem dX10_all_1 : decode cX10_all 1 = .ok (.istore_n 1, 1) := by decide +kernel
theorem dX10_all_2 : decode cX10_all 2 = .ok (.iconst 0, 1) := by decide +kernel
theorem dX10_all_3 : decode cX10_all 3 = .ok (.istore_n 2, 1) := by decide +kernel
theorem dX10_all_4 : decode cX10_all 4 = .ok (.iload_n 2, 1) := by decide +kernel
theorem dX10_all_5 : decode cX10_all 5 = .ok (.aload_n 0, 1) := by decide +kernel
theorem dX10_all_6 : decode cX10_all 6 = .ok (.getfield 53, 3) := by decide +kernel
theorem dX10_all_9 : decode cX10_all 9 = .ok (.if_icmp .ge 23, 3) := by decide +kernel
theorem dX10_all_12 : decode cX10_all 12 = .ok (.iload_n 1, 1) := by decide +kernel
theorem dX10_all_13 : decode cX10_all 13 = .ok (.aload_n 0, 1) := by decide +kernel
theorem dX10_all_14 : decode cX10_all 14 = .ok (.iload_n 2, 1) := by decide +kernel
theorem dX10_all_15 : decode cX10_all 15 = .ok (.invokevirtual 98, 3) := by decide +kernel
theorem dX10_all_18 : decode cX10_all 18 = .ok (.aload_n 0, 1) := by decide +kernel
theorem dX10_all_19 : decode cX10_all 19 = .ok (.iload_n 2, 1) := by decide +kernel
theorem dX10_all_20 : decode cX10_all 20 = .ok (.invokevirtual 101, 3) := by decide +kernel
theorem dX10_all_23 : decode cX10_all 23 = .ok (.iadd, 1) := by decide +kernel
theorem dX10_all_24 : decode cX10_all 24 = .ok (.iadd, 1) := by decide +kernel
theorem dX10_all_25 : decode cX10_all 25 = .ok (.istore_n 1, 1) := by decide +kernel
theorem dX10_all_26 : decode cX10_all 26 = .ok (.iinc 2 1, 3) := by decide +kernel
theorem dX10_all_29 : decode cX10_all 29 = .ok (.goto (-25), 3) := by decide +kernel
theorem dX10_all_32 : decode cX10_all 32 = .ok (.iload_n 1, 1) := by decide +kernel
theorem dX10_all_33 : decode cX10_all 33 = .ok (.ireturn, 1) := by decide +kernel
theorem dX10_turn_0 : decode cX10_turn 0 = .ok (.aload_n 0, 1) := by decide +kernel
theorem dX10_turn_1 : decode cX10_turn 1 = .ok (.getfield 24, 3) := by decide +kernel
theorem dX10_turn_4 : decode cX10_turn 4 = .ok (.iload_n 1, 1) := by decide +kernel
theorem dX10_turn_5 : decode cX10_turn 5 = .ok (.aaload, 1) := by decide +kernel
theorem dX10_turn_6 : decode cX10_turn 6 = .ok (.iload_n 2, 1) := by decide +kernel
theorem dX10_turn_7 : decode cX10_turn 7 = .ok (.iaload, 1) := by decide +kernel
theorem dX10_turn_8 : decode cX10_turn 8 = .ok (.istore 4, 2) := by decide +kernel
theorem dX10_turn_10 : decode cX10_turn 10 = .ok (.aload_n 0, 1) := by decide +kernel
theorem dX10_turn_11 : decode cX10_turn 11 = .ok (.getfield 24, 3) := by decide +kernel
theorem dX10_turn_14 : decode cX10_turn 14 = .ok (.iload_n 1, 1) := by decide +kernel
theorem dX10_turn_15 : decode cX10_turn 15 = .ok (.aaload, 1) := by decide +kernel
theorem dX10_turn_16 : decode cX10_turn 16 = .ok (.iload_n 2, 1) := by decide +kernel
theorem dX10_turn_17 : decode cX10_turn 17 = .ok (.aload_n 0, 1) := by decide +kernel
theorem dX10_turn_18 : decode cX10_turn 18 = .ok (.getfield 24, 3) := by decide +kernel
theorem dX10_turn_21 : decode cX10_turn 21 = .ok (.iload_n 1, 1) := by decide +kernel
theorem dX10_turn_22 : decode cX10_turn 22 = .ok (.aaload, 1) := by decide +kernel
theorem dX10_turn_23 : decode cX10_turn 23 = .ok (.iload_n 3, 1) := by decide +kernel
theorem dX10_turn_24 : decode cX10_turn 24 = .ok (.iaload, 1) := by decide +kernel
theorem dX10_turn_25 : decode cX10_turn 25 = .ok (.iastore, 1) := by decide +kernel
theorem dX10_turn_26 : decode cX10_turn 26 = .ok (.aload_n 0, 1) := by decide +kernel
theorem dX10_turn_27 : decode cX10_turn 27 = .ok (.getfield 24, 3) := by decide +kernel
theorem dX10_turn_30 : decode cX10_turn 30 = .ok (.iload_n 1, 1) := by decide +kernel
theorem dX10_turn_31 : decode cX10_turn 31 = .ok (.aaload, 1) := by decide +kernel
theorem dX10_turn_32 : decode cX10_turn 32 = .ok (.iload_n 3, 1) := by decide +kernel
theorem dX10_turn_33 : decode cX10_turn 33 = .ok (.iload 4, 2) := by decide +kernel
theorem dX10_turn_35 : decode cX10_turn 35 = .ok (.iastore, 1) := by decide +kernel
theorem dX10_turn_36 : decode cX10_turn 36 = .ok (.return_, 1) := by decide +kernel
theorem dX10_key_0 : decode cX10_key 0 = .ok (.aload_n 0, 1) := by decide +kernel
theorem dX10_key_1 : decode cX10_key 1 = .ok (.getfield 13, 3) := by decide +kernel
theorem dX10_key_4 : decode cX10_key 4 = .ok (.iload_n 1, 1) := by decide +kernel
theorem dX10_key_5 : decode cX10_key 5 = .ok (.iaload, 1) := by decide +kernel
theorem dX10_key_6 : decode cX10_key 6 = .ok (.ifCond .ge 9, 3) := by decide +kernel
theorem dX10_key_9 : decode cX10_key 9 = .ok (.sipush 1000, 3) := by decide +kernel
theorem dX10_key_12 : decode cX10_key 12 = .ok (.goto 13, 3) := by decide +kernel
theorem dX10_key_15 : decode cX10_key 15 = .ok (.aload_n 0, 1) := by decide +kernel
theorem dX10_key_16 : decode cX10_key 16 = .ok (.aload_n 0, 1) := by decide +kernel
theorem dX10_key_17 : decode cX10_key 17 = .ok (.getfield 13, 3) := by decide +kernel
theorem dX10_key_20 : decode cX10_key 20 = .ok (.iload_n 1, 1) := by decide +kernel
theorem dX10_key_21 : decode cX10_key 21 = .ok (.iaload, 1) := by decide +kernel
theorem dX10_key_22 : decode cX10_key 22 = .ok (.invokevirtual 95, 3) := by decide +kernel
theorem dX10_key_25 : decode cX10_key 25 = .ok (.ireturn, 1) := by decide +kernel
theorem dX10_arrange_0 : decode cX10_arrange 0 = .ok (.iconst 1, 1) := by decide +kernel
theorem dX10_arrange_1 : decode cX10_arrange 1 = .ok (.istore_n 1, 1) := by decide +kernel
theorem dX10_arrange_2 : decode cX10_arrange 2 = .ok (.iload_n 1, 1) := by decide +kernel
theorem dX10_arrange_3 : decode cX10_arrange 3 = .ok (.aload_n 0, 1) := by decide +kernel
theorem dX10_arrange_4 : decode cX10_arrange 4 = .ok (.getfield 53, 3) := by decide +kernel
theorem dX10_arrange_7 : decode cX10_arrange 7 = .ok (.if_icmp .ge 189, 3) := by decide +kernel
theorem dX10_arrange_10 : decode cX10_arrange 10 = .ok (.aload_n 0, 1) := by decide +kernel
theorem dX10_arrange_11 : decode cX10_arrange 11 = .ok (.getfield 24, 3) := by decide +kernel
theorem dX10_arrange_14 : decode cX10_arrange 14 = .ok (.iload_n 1, 1) := by decide +kernel
theorem dX10_arrange_15 : decode cX10_arrange 15 = .ok (.aaload, 1) := by decide +kernel
theorem dX10_arrange_16 : decode cX10_arrange 16 = .ok (.astore_n 2, 1) := by decide +kernel
theorem dX10_arrange_17 : decode cX10_arrange 17 = .ok (.aload_n 2, 1) := by decide +kernel
theorem dX10_arrange_18 : decode cX10_arrange 18 = .ok (.arraylength, 1) := by decide +kernel
theorem dX10_arrange_19 : decode cX10_arrange 19 = .ok (.newarray .int, 2) := by decide +kernel
theorem dX10_arrange_21 : decode cX10_arrange 21 = .ok (.astore_n 3, 1) := by decide +kernel
theorem dX10_arrange_22 : decode cX10_arrange 22 = .ok (.iconst 0, 1) := by decide +kernel
theorem dX10_arrange_23 : decode cX10_arrange 23 = .ok (.istore 4, 2) := by decide +kernel
theorem dX10_arrange_25 : decode cX10_arrange 25 = .ok (.iload 4, 2) := by decide +kernel
theorem dX10_arrange_27 : decode cX10_arrange 27 = .ok (.aload_n 2, 1) := by decide +kernel
theorem dX10_arrange_28 : decode cX10_arrange 28 = .ok (.arraylength, 1) := by decide +kernel
theorem dX10_arrange_29 : decode cX10_arrange 29 = .ok (.if_icmp .ge 90, 3) := by decide +kernel
theorem dX10_arrange_32 : decode cX10_arrange 32 = .ok (.aload_n 2, 1) := by decide +kernel
theorem dX10_arrange_33 : decode cX10_arrange 33 = .ok (.iload 4, 2) := by decide +kernel
theorem dX10_arrange_35 : decode cX10_arrange 35 = .ok (.iaload, 1) := by decide +kernel
theorem dX10_arrange_36 : decode cX10_arrange 36 = .ok (.istore 5, 2) := by decide +kernel
theorem dX10_arrange_38 : decode cX10_arrange 38 = .ok (.aload_n 3, 1) := by decide +kernel
theorem dX10_arrange_39 : decode cX10_arrange 39 = .ok (.iload 4, 2) := by decide +kernel
theorem dX10_arrange_41 : decode cX10_arrange 41 = .ok (.iload 5, 2) := by decide +kernel
theorem dX10_arrange_43 : decode cX10_arrange 43 = .ok (.bipush 16, 2) := by decide +kernel
theorem dX10_arrange_45 : decode cX10_arrange 45 = .ok (.if_icmp .ge 12, 3) := by decide +kernel
theorem dX10_arrange_48 : decode cX10_arrange 48 = .ok (.aload_n 0, 1) := by decide +kernel
theorem dX10_arrange_49 : decode cX10_arrange 49 = .ok (.iload 5, 2) := by decide +kernel
theorem dX10_arrange_51 : decode cX10_arrange 51 = .ok (.invokevirtual 104, 3) := by decide +kernel
theorem dX10_arrange_54 : decode cX10_arrange 54 = .ok (.goto 58, 3) := by decide +kernel
theorem dX10_arrange_57 : decode cX10_arrange 57 = .ok (.aload_n 0, 1) := by decide +kernel
theorem dX10_arrange_58 : decode cX10_arrange 58 = .ok (.aload_n 0, 1) := by decide +kernel
theorem dX10_arrange_59 : decode cX10_arrange 59 = .ok (.getfield 20, 3) := by decide +kernel
theorem dX10_arrange_62 : decode cX10_arrange 62 = .ok (.iload 5, 2) := by decide +kernel
theorem dX10_arrange_64 : decode cX10_arrange 64 = .ok (.bipush 16, 2) := by decide +kernel
theorem dX10_arrange_66 : decode cX10_arrange 66 = .ok (.isub, 1) := by decide +kernel
theorem dX10_arrange_67 : decode cX10_arrange 67 = .ok (.aaload, 1) := by decide +kernel
theorem dX10_arrange_68 : decode cX10_arrange 68 = .ok (.iconst 0, 1) := by decide +kernel
theorem dX10_arrange_69 : decode cX10_arrange 69 = .ok (.iaload, 1) := by decide +kernel
theorem dX10_arrange_70 : decode cX10_arrange 70 = .ok (.aload_n 0, 1) := by decide +kernel
theorem dX10_arrange_71 : decode cX10_arrange 71 = .ok (.iload 5, 2) := by decide +kernel
theorem dX10_arrange_73 : decode cX10_arrange 73 = .ok (.bipush 16, 2) := by decide +kernel
theorem dX10_arrange_75 : decode cX10_arrange 75 = .ok (.isub, 1) := by decide +kernel
theorem dX10_arrange_76 : decode cX10_arrange 76 = .ok (.invokevirtual 80, 3) := by decide +kernel
theorem dX10_arrange_79 : decode cX10_arrange 79 = .ok (.if_icmp .ne 18, 3) := by decide +kernel
theorem dX10_arrange_82 : decode cX10_arrange 82 = .ok (.aload_n 0, 1) := by decide +kernel
theorem dX10_arrange_83 : decode cX10_arrange 83 = .ok (.getfield 20, 3) := by decide +kernel
theorem dX10_arrange_86 : decode cX10_arrange 86 = .ok (.iload 5, 2) := by decide +kernel
theorem dX10_arrange_88 : decode cX10_arrange 88 = .ok (.bipush 16, 2) := by decide +kernel
theorem dX10_arrange_90 : decode cX10_arrange 90 = .ok (.isub, 1) := by decide +kernel
theorem dX10_arrange_91 : decode cX10_arrange 91 = .ok (.aaload, 1) := by decide +kernel
theorem dX10_arrange_92 : decode cX10_arrange 92 = .ok (.iconst 1, 1) := by decide +kernel
theorem dX10_arrange_93 : decode cX10_arrange 93 = .ok (.iaload, 1) := by decide +kernel
theorem dX10_arrange_94 : decode cX10_arrange 94 = .ok (.goto 15, 3) := by decide +kernel
theorem dX10_arrange_97 : decode cX10_arrange 97 = .ok (.aload_n 0, 1) := by decide +kernel
theorem dX10_arrange_98 : decode cX10_arrange 98 = .ok (.getfield 20, 3) := by decide +kernel
theorem dX10_arrange_101 : decode cX10_arrange 101 = .ok (.iload 5, 2) := by decide +kernel
theorem dX10_arrange_103 : decode cX10_arrange 103 = .ok (.bipush 16, 2) := by decide +kernel
theorem dX10_arrange_105 : decode cX10_arrange 105 = .ok (.isub, 1) := by decide +kernel
theorem dX10_arrange_106 : decode cX10_arrange 106 = .ok (.aaload, 1) := by decide +kernel
theorem dX10_arrange_107 : decode cX10_arrange 107 = .ok (.iconst 0, 1) := by decide +kernel
theorem dX10_arrange_108 : decode cX10_arrange 108 = .ok (.iaload, 1) := by decide +kernel
theorem dX10_arrange_109 : decode cX10_arrange 109 = .ok (.invokevirtual 104, 3) := by decide +kernel
theorem dX10_arrange_112 : decode cX10_arrange 112 = .ok (.iastore, 1) := by decide +kernel
theorem dX10_arrange_113 : decode cX10_arrange 113 = .ok (.iinc 4 1, 3) := by decide +kernel
theorem dX10_arrange_116 : decode cX10_arrange 116 = .ok (.goto (-91), 3) := by decide +kernel
theorem dX10_arrange_119 : decode cX10_arrange 119 = .ok (.aload_n 2, 1) := by decide +kernel
theorem dX10_arrange_120 : decode cX10_arrange 120 = .ok (.arraylength, 1) := by decide +kernel
theorem dX10_arrange_121 : decode cX10_arrange 121 = .ok (.newarray .int, 2) := by decide +kernel
theorem dX10_arrange_123 : decode cX10_arrange 123 = .ok (.astore 4, 2) := by decide +kernel
theorem dX10_arrange_125 : decode cX10_arrange 125 = .ok (.iconst 0, 1) := by decide +kernel
theorem dX10_arrange_126 : decode cX10_arrange 126 = .ok (.istore 5, 2) := by decide +kernel
theorem dX10_arrange_128 : decode cX10_arrange 128 = .ok (.iconst 0, 1) := by decide +kernel
theorem dX10_arrange_129 : decode cX10_arrange 129 = .ok (.istore 6, 2) := by decide +kernel
theorem dX10_arrange_131 : decode cX10_arrange 131 = .ok (.iload 6, 2) := by decide +kernel
theorem dX10_arrange_133 : decode cX10_arrange 133 = .ok (.sipush 1000, 3) := by decide +kernel
theorem dX10_arrange_136 : decode cX10_arrange 136 = .ok (.if_icmp .gt 46, 3) := by decide +kernel
theorem dX10_arrange_139 : decode cX10_arrange 139 = .ok (.iconst 0, 1) := by decide +kernel
theorem dX10_arrange_140 : decode cX10_arrange 140 = .ok (.istore 7, 2) := by decide +kernel
theorem dX10_arrange_142 : decode cX10_arrange 142 = .ok (.iload 7, 2) := by decide +kernel
theorem dX10_arrange_144 : decode cX10_arrange 144 = .ok (.aload_n 2, 1) := by decide +kernel
theorem dX10_arrange_145 : decode cX10_arrange 145 = .ok (.arraylength, 1) := by decide +kernel
theorem dX10_arrange_146 : decode cX10_arrange 146 = .ok (.if_icmp .ge 30, 3) := by decide +kernel
theorem dX10_arrange_149 : decode cX10_arrange 149 = .ok (.aload_n 3, 1) := by decide +kernel
theorem dX10_arrange_150 : decode cX10_arrange 150 = .ok (.iload 7, 2) := by decide +kernel
theorem dX10_arrange_152 : decode cX10_arrange 152 = .ok (.iaload, 1) := by decide +kernel
theorem dX10_arrange_153 : decode cX10_arrange 153 = .ok (.iload 6, 2) := by decide +kernel
theorem dX10_arrange_155 : decode cX10_arrange 155 = .ok (.if_icmp .ne 15, 3) := by decide +kernel
theorem dX10_arrange_158 : decode cX10_arrange 158 = .ok (.aload 4, 2) := by decide +kernel
theorem dX10_arrange_160 : decode cX10_arrange 160 = .ok (.iload 5, 2) := by decide +kernel
theorem dX10_arrange_162 : decode cX10_arrange 162 = .ok (.iinc 5 1, 3) := by decide +kernel
theorem dX10_arrange_165 : decode cX10_arrange 165 = .ok (.aload_n 2, 1) := by decide +kernel
theorem dX10_arrange_166 : decode cX10_arrange 166 = .ok (.iload 7, 2) := by decide +kernel
theorem dX10_arrange_168 : decode cX10_arrange 168 = .ok (.iaload, 1) := by decide +kernel
theorem dX10_arrange_169 : decode cX10_arrange 169 = .ok (.iastore, 1) := by decide +kernel
theorem dX10_arrange_170 : decode cX10_arrange 170 = .ok (.iinc 7 1, 3) := by decide +kernel
theorem dX10_arrange_173 : decode cX10_arrange 173 = .ok (.goto (-31), 3) := by decide +kernel
theorem dX10_arrange_176 : decode cX10_arrange 176 = .ok (.iinc 6 1, 3) := by decide +kernel
theorem dX10_arrange_179 : decode cX10_arrange 179 = .ok (.goto (-48), 3) := by decide +kernel
theorem dX10_arrange_182 : decode cX10_arrange 182 = .ok (.aload_n 0, 1) := by decide +kernel
theorem dX10_arrange_183 : decode cX10_arrange 183 = .ok (.getfield 24, 3) := by decide +kernel
theorem dX10_arrange_186 : decode cX10_arrange 186 = .ok (.iload_n 1, 1) := by decide +kernel
theorem dX10_arrange_187 : decode cX10_arrange 187 = .ok (.aload 4, 2) := by decide +kernel
theorem dX10_arrange_189 : decode cX10_arrange 189 = .ok (.aastore, 1) := by decide +kernel
theorem dX10_arrange_190 : decode cX10_arrange 190 = .ok (.iinc 1 1, 3) := by decide +kernel
theorem dX10_arrange_193 : decode cX10_arrange 193 = .ok (.goto (-191), 3) := by decide +kernel
theorem dX10_arrange_196 : decode cX10_arrange 196 = .ok (.return_, 1) := by decide +kernel
theorem dX10_improve_0 : decode cX10_improve 0 = .ok (.iconst 0, 1) := by decide +kernel
theorem dX10_improve_1 : decode cX10_improve 1 = .ok (.istore_n 2, 1) := by decide +kernel
theorem dX10_improve_2 : decode cX10_improve 2 = .ok (.iconst 1, 1) := by decide +kernel
theorem dX10_improve_3 : decode cX10_improve 3 = .ok (.istore_n 3, 1) := by decide +kernel
theorem dX10_improve_4 : decode cX10_improve 4 = .ok (.iconst 0, 1) := by decide +kernel
theorem dX10_improve_5 : decode cX10_improve 5 = .ok (.istore 4, 2) := by decide +kernel
theorem dX10_improve_7 : decode cX10_improve 7 = .ok (.iload 4, 2) := by decide +kernel
theorem dX10_improve_9 : decode cX10_improve 9 = .ok (.iload_n 1, 1) := by decide +kernel
theorem dX10_improve_10 : decode cX10_improve 10 = .ok (.if_icmp .ge 104, 3) := by decide +kernel
theorem dX10_improve_13 : decode cX10_improve 13 = .ok (.iload_n 3, 1) := by decide +kernel
theorem dX10_improve_14 : decode cX10_improve 14 = .ok (.ifCond .le 100, 3) := by decide +kernel
theorem dX10_improve_17 : decode cX10_improve 17 = .ok (.iconst 0, 1) := by decide +kernel
theorem dX10_improve_18 : decode cX10_improve 18 = .ok (.istore_n 3, 1) := by decide +kernel
theorem dX10_improve_19 : decode cX10_improve 19 = .ok (.iconst 0, 1) := by decide +kernel
theorem dX10_improve_20 : decode cX10_improve 20 = .ok (.istore 5, 2) := by decide +kernel
theorem dX10_improve_22 : decode cX10_improve 22 = .ok (.iload 5, 2) := by decide +kernel
theorem dX10_improve_24 : decode cX10_improve 24 = .ok (.aload_n 0, 1) := by decide +kernel
theorem dX10_improve_25 : decode cX10_improve 25 = .ok (.getfield 53, 3) := by decide +kernel
theorem dX10_improve_28 : decode cX10_improve 28 = .ok (.if_icmp .ge 76, 3) := by decide +kernel
theorem dX10_improve_31 : decode cX10_improve 31 = .ok (.iconst 1, 1) := by decide +kernel
theorem dX10_improve_32 : decode cX10_improve 32 = .ok (.istore 6, 2) := by decide +kernel
theorem dX10_improve_34 : decode cX10_improve 34 = .ok (.iload 6, 2) := by decide +kernel
theorem dX10_improve_36 : decode cX10_improve 36 = .ok (.aload_n 0, 1) := by decide +kernel
theorem dX10_improve_37 : decode cX10_improve 37 = .ok (.getfield 24, 3) := by decide +kernel
theorem dX10_improve_40 : decode cX10_improve 40 = .ok (.iload 5, 2) := by decide +kernel
theorem dX10_improve_42 : decode cX10_improve 42 = .ok (.aaload, 1) := by decide +kernel
theorem dX10_improve_43 : decode cX10_improve 43 = .ok (.arraylength, 1) := by decide +kernel
theorem dX10_improve_44 : decode cX10_improve 44 = .ok (.if_icmp .ge 54, 3) := by decide +kernel
theorem dX10_improve_47 : decode cX10_improve 47 = .ok (.aload_n 0, 1) := by decide +kernel
theorem dX10_improve_48 : decode cX10_improve 48 = .ok (.invokevirtual 107, 3) := by decide +kernel
theorem dX10_improve_51 : decode cX10_improve 51 = .ok (.istore 7, 2) := by decide +kernel
theorem dX10_improve_53 : decode cX10_improve 53 = .ok (.aload_n 0, 1) := by decide +kernel
theorem dX10_improve_54 : decode cX10_improve 54 = .ok (.iload 5, 2) := by decide +kernel
theorem dX10_improve_56 : decode cX10_improve 56 = .ok (.iload 6, 2) := by decide +kernel
theorem dX10_improve_58 : decode cX10_improve 58 = .ok (.iconst 1, 1) := by decide +kernel
theorem dX10_improve_59 : decode cX10_improve 59 = .ok (.isub, 1) := by decide +kernel
theorem dX10_improve_60 : decode cX10_improve 60 = .ok (.iload 6, 2) := by decide +kernel
theorem dX10_improve_62 : decode cX10_improve 62 = .ok (.invokevirtual 111, 3) := by decide +kernel
theorem dX10_improve_65 : decode cX10_improve 65 = .ok (.aload_n 0, 1) := by decide +kernel
theorem dX10_improve_66 : decode cX10_improve 66 = .ok (.invokevirtual 107, 3) := by decide +kernel
theorem dX10_improve_69 : decode cX10_improve 69 = .ok (.iload 7, 2) := by decide +kernel
theorem dX10_improve_71 : decode cX10_improve 71 = .ok (.if_icmp .ge 9, 3) := by decide +kernel
theorem dX10_improve_74 : decode cX10_improve 74 = .ok (.iinc 3 1, 3) := by decide +kernel
theorem dX10_improve_77 : decode cX10_improve 77 = .ok (.goto 15, 3) := by decide +kernel
theorem dX10_improve_80 : decode cX10_improve 80 = .ok (.aload_n 0, 1) := by decide +kernel
theorem dX10_improve_81 : decode cX10_improve 81 = .ok (.iload 5, 2) := by decide +kernel
theorem dX10_improve_83 : decode cX10_improve 83 = .ok (.iload 6, 2) := by decide +kernel
theorem dX10_improve_85 : decode cX10_improve 85 = .ok (.iconst 1, 1) := by decide +kernel
theorem dX10_improve_86 : decode cX10_improve 86 = .ok (.isub, 1) := by decide +kernel
theorem dX10_improve_87 : decode cX10_improve 87 = .ok (.iload 6, 2) := by decide +kernel
theorem dX10_improve_89 : decode cX10_improve 89 = .ok (.invokevirtual 111, 3) := by decide +kernel
theorem dX10_improve_92 : decode cX10_improve 92 = .ok (.iinc 6 1, 3) := by decide +kernel
theorem dX10_improve_95 : decode cX10_improve 95 = .ok (.goto (-61), 3) := by decide +kernel
theorem dX10_improve_98 : decode cX10_improve 98 = .ok (.iinc 5 1, 3) := by decide +kernel
theorem dX10_improve_101 : decode cX10_improve 101 = .ok (.goto (-79), 3) := by decide +kernel
theorem dX10_improve_104 : decode cX10_improve 104 = .ok (.iload_n 2, 1) := by decide +kernel
theorem dX10_improve_105 : decode cX10_improve 105 = .ok (.iload_n 3, 1) := by decide +kernel
theorem dX10_improve_106 : decode cX10_improve 106 = .ok (.iadd, 1) := by decide +kernel
theorem dX10_improve_107 : decode cX10_improve 107 = .ok (.istore_n 2, 1) := by decide +kernel
theorem dX10_improve_108 : decode cX10_improve 108 = .ok (.iinc 4 1, 3) := by decide +kernel
theorem dX10_improve_111 : decode cX10_improve 111 = .ok (.goto (-104), 3) := by decide +kernel
theorem dX10_improve_114 : decode cX10_improve 114 = .ok (.iload_n 2, 1) := by decide +kernel
theorem dX10_improve_115 : decode cX10_improve 115 = .ok (.ireturn, 1) := by decide +kernel
theorem dX10_name_0 : decode cX10_name 0 = .ok (.bipush 97, 2) := by decide +kernel
theorem dX10_name_2 : decode cX10_name 2 = .ok (.iload_n 1, 1) := by decide +kernel
theorem dX10_name_3 : decode cX10_name 3 = .ok (.iload_n 2, 1) := by decide +kernel
theorem dX10_name_4 : decode cX10_name 4 = .ok (.iadd, 1) := by decide +kernel
theorem dX10_name_5 : decode cX10_name 5 = .ok (.bipush 16, 2) := by decide +kernel
theorem dX10_name_7 : decode cX10_name 7 = .ok (.irem, 1) := by decide +kernel
theorem dX10_name_8 : decode cX10_name 8 = .ok (.iadd, 1) := by decide +kernel
theorem dX10_name_9 : decode cX10_name 9 = .ok (.i2c, 1) := by decide +kernel
theorem dX10_name_10 : decode cX10_name 10 = .ok (.ireturn, 1) := by decide +kernel
theorem dJ6_bitCount_0f7a4_0 : decode cJ6_bitCount_0f7a4 0 = .ok (.iload_n 0, 1) := by decide +kernel
theorem dJ6_bitCount_0f7a4_1 : decode cJ6_bitCount_0f7a4 1 = .ok (.iload_n 0, 1) := by decide +kernel
theorem dJ6_bitCount_0f7a4_2 : decode cJ6_bitCount_0f7a4 2 = .ok (.iconst 1, 1) := by decide +kernel
theorem dJ6_bitCount_0f7a4_3 : decode cJ6_bitCount_0f7a4 3 = .ok (.iushr, 1) := by decide +kernel
theorem dJ6_bitCount_0f7a4_4 : decode cJ6_bitCount_0f7a4 4 = .ok (.ldc_w 265, 3) := by decide +kernel
theorem dJ6_bitCount_0f7a4_7 : decode cJ6_bitCount_0f7a4 7 = .ok (.iand, 1) := by decide +kernel
theorem dJ6_bitCount_0f7a4_8 : decode cJ6_bitCount_0f7a4 8 = .ok (.isub, 1) := by decide +kernel
theorem dJ6_bitCount_0f7a4_9 : decode cJ6_bitCount_0f7a4 9 = .ok (.istore_n 0, 1) := by decide +kernel
theorem dJ6_bitCount_0f7a4_10 : decode cJ6_bitCount_0f7a4 10 = .ok (.iload_n 0, 1) := by decide +kernel
theorem dJ6_bitCount_0f7a4_11 : decode cJ6_bitCount_0f7a4 11 = .ok (.ldc_w 266, 3) := by decide +kernel
theorem dJ6_bitCount_0f7a4_14 : decode cJ6_bitCount_0f7a4 14 = .ok (.iand, 1) := by decide +kernel
theorem dJ6_bitCount_0f7a4_15 : decode cJ6_bitCount_0f7a4 15 = .ok (.iload_n 0, 1) := by decide +kernel
theorem dJ6_bitCount_0f7a4_16 : decode cJ6_bitCount_0f7a4 16 = .ok (.iconst 2, 1) := by decide +kernel
theorem dJ6_bitCount_0f7a4_17 : decode cJ6_bitCount_0f7a4 17 = .ok (.iushr, 1) := by decide +kernel
theorem dJ6_bitCount_0f7a4_18 : decode cJ6_bitCount_0f7a4 18 = .ok (.ldc_w 266, 3) := by decide +kernel
theorem dJ6_bitCount_0f7a4_21 : decode cJ6_bitCount_0f7a4 21 = .ok (.iand, 1) := by decide +kernel
theorem dJ6_bitCount_0f7a4_22 : decode cJ6_bitCount_0f7a4 22 = .ok (.iadd, 1) := by decide +kernel
theorem dJ6_bitCount_0f7a4_23 : decode cJ6_bitCount_0f7a4 23 = .ok (.istore_n 0, 1) := by decide +kernel
theorem dJ6_bitCount_0f7a4_24 : decode cJ6_bitCount_0f7a4 24 = .ok (.iload_n 0, 1) := by decide +kernel
theorem dJ6_bitCount_0f7a4_25 : decode cJ6_bitCount_0f7a4 25 = .ok (.iload_n 0, 1) := by decide +kernel
theorem dJ6_bitCount_0f7a4_26 : decode cJ6_bitCount_0f7a4 26 = .ok (.iconst 4, 1) := by decide +kernel
theorem dJ6_bitCount_0f7a4_27 : decode cJ6_bitCount_0f7a4 27 = .ok (.iushr, 1) := by decide +kernel
theorem dJ6_bitCount_0f7a4_28 : decode cJ6_bitCount_0f7a4 28 = .ok (.iadd, 1) := by decide +kernel
theorem dJ6_bitCount_0f7a4_29 : decode cJ6_bitCount_0f7a4 29 = .ok (.ldc_w 267, 3) := by decide +kernel
theorem dJ6_bitCount_0f7a4_32 : decode cJ6_bitCount_0f7a4 32 = .ok (.iand, 1) := by decide +kernel
theorem dJ6_bitCount_0f7a4_33 : decode cJ6_bitCount_0f7a4 33 = .ok (.istore_n 0, 1) := by decide +kernel
theorem dJ6_bitCount_0f7a4_34 : decode cJ6_bitCount_0f7a4 34 = .ok (.iload_n 0, 1) := by decide +kernel
theorem dJ6_bitCount_0f7a4_35 : decode cJ6_bitCount_0f7a4 35 = .ok (.iload_n 0, 1) := by decide +kernel
theorem dJ6_bitCount_0f7a4_36 : decode cJ6_bitCount_0f7a4 36 = .ok (.bipush 8, 2) := by decide +kernel
theorem dJ6_bitCount_0f7a4_38 : decode cJ6_bitCount_0f7a4 38 = .ok (.iushr, 1) := by decide +kernel
theorem dJ6_bitCount_0f7a4_39 : decode cJ6_bitCount_0f7a4 39 = .ok (.iadd, 1) := by decide +kernel
theorem dJ6_bitCount_0f7a4_40 : decode cJ6_bitCount_0f7a4 40 = .ok (.istore_n 0, 1) := by decide +kernel
theorem dJ6_bitCount_0f7a4_41 : decode cJ6_bitCount_0f7a4 41 = .ok (.iload_n 0, 1) := by decide +kernel
theorem dJ6_bitCount_0f7a4_42 : decode cJ6_bitCount_0f7a4 42 = .ok (.iload_n 0, 1) := by decide +kernel
theorem dJ6_bitCount_0f7a4_43 : decode cJ6_bitCount_0f7a4 43 = .ok (.bipush 16, 2) := by decide +kernel
theorem dJ6_bitCount_0f7a4_45 : decode cJ6_bitCount_0f7a4 45 = .ok (.iushr, 1) := by decide +kernel
theorem dJ6_bitCount_0f7a4_46 : decode cJ6_bitCount_0f7a4 46 = .ok (.iadd, 1) := by decide +kernel
theorem dJ6_bitCount_0f7a4_47 : decode cJ6_bitCount_0f7a4 47 = .ok (.istore_n 0, 1) := by decide +kernel
theorem dJ6_bitCount_0f7a4_48 : decode cJ6_bitCount_0f7a4 48 = .ok (.iload_n 0, 1) := by decide +kernel
theorem dJ6_bitCount_0f7a4_49 : decode cJ6_bitCount_0f7a4 49 = .ok (.bipush 63, 2) := by decide +kernel
theorem dJ6_bitCount_0f7a4_51 : decode cJ6_bitCount_0f7a4 51 = .ok (.iand, 1) := by decide +kernel
theorem dJ6_bitCount_0f7a4_52 : decode cJ6_bitCount_0f7a4 52 = .ok (.ireturn, 1) := by decide +kernel
theorem dJ9_max_7cf53_0 : decode cJ9_max_7cf53 0 = .ok (.iload_n 0, 1) := by decide +kernel
theorem dJ9_max_7cf53_1 : decode cJ9_max_7cf53 1 = .ok (.iload_n 1, 1) := by decide +kernel
theorem dJ9_max_7cf53_2 : decode cJ9_max_7cf53 2 = .ok (.if_icmp .lt 7, 3) := by decide +kernel
theorem dJ9_max_7cf53_5 : decode cJ9_max_7cf53 5 = .ok (.iload_n 0, 1) := by decide +kernel
theorem dJ9_max_7cf53_6 : decode cJ9_max_7cf53 6 = .ok (.goto 4, 3) := by decide +kernel
theorem dJ9_max_7cf53_9 : decode cJ9_max_7cf53 9 = .ok (.iload_n 1, 1) := by decide +kernel
theorem dJ9_max_7cf53_10 : decode cJ9_max_7cf53 10 = .ok (.ireturn, 1) := by decide +kernel
theorem dJ9_min_7cf53_0 : decode cJ9_min_7cf53 0 = .ok (.iload_n 0, 1) := by decide +kernel
theorem dJ9_min_7cf53_1 : decode cJ9_min_7cf53 1 = .ok (.iload_n 1, 1) := by decide +kernel
theorem dJ9_min_7cf53_2 : decode cJ9_min_7cf53 2 = .ok (.if_icmp .gt 7, 3) := by decide +kernel
theorem dJ9_min_7cf53_5 : decode cJ9_min_7cf53 5 = .ok (.iload_n 0, 1) := by decide +kernel
theorem dJ9_min_7cf53_6 : decode cJ9_min_7cf53 6 = .ok (.goto 4, 3) := by decide +kernel
theorem dJ9_min_7cf53_9 : decode cJ9_min_7cf53 9 = .ok (.iload_n 1, 1) := by decide +kernel
theorem dJ9_min_7cf53_10 : decode cJ9_min_7cf53 10 = .ok (.ireturn, 1) := by decide +kernel
theorem dJ0_length_8abf5_0 : decode cJ0_length_8abf5 0 = .ok (.aload_n 0, 1) := by decide +kernel
theorem dJ0_length_8abf5_1 : decode cJ0_length_8abf5 1 = .ok (.getfield 9, 3) := by decide +kernel
theorem dJ0_length_8abf5_4 : decode cJ0_length_8abf5 4 = .ok (.arraylength, 1) := by decide +kernel
theorem dJ0_length_8abf5_5 : decode cJ0_length_8abf5 5 = .ok (.aload_n 0, 1) := by decide +kernel
theorem dJ0_length_8abf5_6 : decode cJ0_length_8abf5 6 = .ok (.invokevirtual 335, 3) := by decide +kernel
theorem dJ0_length_8abf5_9 : decode cJ0_length_8abf5 9 = .ok (.ishr, 1) := by decide +kernel
theorem dJ0_length_8abf5_10 : decode cJ0_length_8abf5 10 = .ok (.ireturn, 1) := by decide +kernel
theorem dJ0_charAt_5068e_0 : decode cJ0_charAt_5068e 0 = .ok (.aload_n 0, 1) := by decide +kernel
theorem dJ0_charAt_5068e_1 : decode cJ0_charAt_5068e 1 = .ok (.invokevirtual 492, 3) := by decide +kernel
theorem dJ0_charAt_5068e_4 : decode cJ0_charAt_5068e 4 = .ok (.ifCond .eq 12, 3) := by decide +kernel
theorem dJ0_charAt_5068e_7 : decode cJ0_charAt_5068e 7 = .ok (.aload_n 0, 1) := by decide +kernel
theorem dJ0_charAt_5068e_8 : decode cJ0_charAt_5068e 8 = .ok (.getfield 9, 3) := by decide +kernel
theorem dJ0_charAt_5068e_11 : decode cJ0_charAt_5068e 11 = .ok (.iload_n 1, 1) := by decide +kernel
theorem dJ0_charAt_5068e_12 : decode cJ0_charAt_5068e 12 = .ok (.invokestatic 495, 3) := by decide +kernel
theorem dJ0_charAt_5068e_15 : decode cJ0_charAt_5068e 15 = .ok (.ireturn, 1) := by decide +kernel
theorem dJ0_charAt_5068e_16 : decode cJ0_charAt_5068e 16 = .ok (.aload_n 0, 1) := by decide +kernel
theorem dJ0_charAt_5068e_17 : decode cJ0_charAt_5068e 17 = .ok (.getfield 9, 3) := by decide +kernel
theorem dJ0_charAt_5068e_20 : decode cJ0_charAt_5068e 20 = .ok (.iload_n 1, 1) := by decide +kernel
theorem dJ0_charAt_5068e_21 : decode cJ0_charAt_5068e 21 = .ok (.invokestatic 498, 3) := by decide +kernel
theorem dJ0_charAt_5068e_24 : decode cJ0_charAt_5068e 24 = .ok (.ireturn, 1) := by decide +kernel
theorem dJ0_coder_7d493_0 : decode cJ0_coder_7d493 0 = .ok (.getstatic 38, 3) := by decide +kernel
theorem dJ0_coder_7d493_3 : decode cJ0_coder_7d493 3 = .ok (.ifCond .eq 10, 3) := by decide +kernel
theorem dJ0_coder_7d493_6 : decode cJ0_coder_7d493 6 = .ok (.aload_n 0, 1) := by decide +kernel
theorem dJ0_coder_7d493_7 : decode cJ0_coder_7d493 7 = .ok (.getfield 15, 3) := by decide +kernel
theorem dJ0_coder_7d493_10 : decode cJ0_coder_7d493 10 = .ok (.goto 4, 3) := by decide +kernel
theorem dJ0_coder_7d493_13 : decode cJ0_coder_7d493 13 = .ok (.iconst 1, 1) := by decide +kernel
theorem dJ0_coder_7d493_14 : decode cJ0_coder_7d493 14 = .ok (.ireturn, 1) := by decide +kernel
theorem dJ0_isLatin1_aae02_0 : decode cJ0_isLatin1_aae02 0 = .ok (.getstatic 38, 3) := by decide +kernel
theorem dJ0_isLatin1_aae02_3 : decode cJ0_isLatin1_aae02 3 = .ok (.ifCond .eq 14, 3) := by decide +kernel
theorem dJ0_isLatin1_aae02_6 : decode cJ0_isLatin1_aae02 6 = .ok (.aload_n 0, 1) := by decide +kernel
theorem dJ0_isLatin1_aae02_7 : decode cJ0_isLatin1_aae02 7 = .ok (.getfield 15, 3) := by decide +kernel
theorem dJ0_isLatin1_aae02_10 : decode cJ0_isLatin1_aae02 10 = .ok (.ifCond .ne 7, 3) := by decide +kernel
theorem dJ0_isLatin1_aae02_13 : decode cJ0_isLatin1_aae02 13 = .ok (.iconst 1, 1) := by decide +kernel
theorem dJ0_isLatin1_aae02_14 : decode cJ0_isLatin1_aae02 14 = .ok (.goto 4, 3) := by decide +kernel
theorem dJ0_isLatin1_aae02_17 : decode cJ0_isLatin1_aae02 17 = .ok (.iconst 0, 1) := by decide +kernel
theorem dJ0_isLatin1_aae02_18 : decode cJ0_isLatin1_aae02 18 = .ok (.ireturn, 1) := by decide +kernel
theorem dJ0_checkIndex_df160_0 : decode cJ0_checkIndex_df160 0 = .ok (.iload_n 0, 1) := by decide +kernel
theorem dJ0_checkIndex_df160_1 : decode cJ0_checkIndex_df160 1 = .ok (.iload_n 1, 1) := by decide +kernel
theorem dJ0_checkIndex_df160_2 : decode cJ0_checkIndex_df160 2 = .ok (.getstatic 1053, 3) := by decide +kernel
theorem dJ0_checkIndex_df160_5 : decode cJ0_checkIndex_df160 5 = .ok (.invokestatic 1059, 3) := by decide +kernel
theorem dJ0_checkIndex_df160_8 : decode cJ0_checkIndex_df160 8 = .ok (.pop, 1) := by decide +kernel
theorem dJ0_checkIndex_df160_9 : decode cJ0_checkIndex_df160 9 = .ok (.return_, 1) := by decide +kernel
theorem dJ1_charAt_3b067_0 : decode cJ1_charAt_3b067 0 = .ok (.iload_n 1, 1) := by decide +kernel
theorem dJ1_charAt_3b067_1 : decode cJ1_charAt_3b067 1 = .ok (.aload_n 0, 1) := by decide +kernel
theorem dJ1_charAt_3b067_2 : decode cJ1_charAt_3b067 2 = .ok (.arraylength, 1) := by decide +kernel
theorem dJ1_charAt_3b067_3 : decode cJ1_charAt_3b067 3 = .ok (.invokestatic 9, 3) := by decide +kernel
theorem dJ1_charAt_3b067_6 : decode cJ1_charAt_3b067 6 = .ok (.aload_n 0, 1) := by decide +kernel
theorem dJ1_charAt_3b067_7 : decode cJ1_charAt_3b067 7 = .ok (.iload_n 1, 1) := by decide +kernel
theorem dJ1_charAt_3b067_8 : decode cJ1_charAt_3b067 8 = .ok (.baload, 1) := by decide +kernel
theorem dJ1_charAt_3b067_9 : decode cJ1_charAt_3b067 9 = .ok (.sipush 255, 3) := by decide +kernel
theorem dJ1_charAt_3b067_12 : decode cJ1_charAt_3b067 12 = .ok (.iand, 1) := by decide +kernel
theorem dJ1_charAt_3b067_13 : decode cJ1_charAt_3b067 13 = .ok (.i2c, 1) := by decide +kernel
theorem dJ1_charAt_3b067_14 : decode cJ1_charAt_3b067 14 = .ok (.ireturn, 1) := by decide +kernel
theorem dJ2_getChar_3b067_0 : decode cJ2_getChar_3b067 0 = .ok (.getstatic 44, 3) := by decide +kernel
theorem dJ2_getChar_3b067_3 : decode cJ2_getChar_3b067 3 = .ok (.ifCond .ne 25, 3) := by decide +kernel
theorem dJ2_getChar_3b067_6 : decode cJ2_getChar_3b067 6 = .ok (.iload_n 1, 1) := by decide +kernel
theorem dJ2_getChar_3b067_7 : decode cJ2_getChar_3b067 7 = .ok (.ifCond .lt 11, 3) := by decide +kernel
theorem dJ2_getChar_3b067_10 : decode cJ2_getChar_3b067 10 = .ok (.iload_n 1, 1) := by decide +kernel
theorem dJ2_getChar_3b067_11 : decode cJ2_getChar_3b067 11 = .ok (.aload_n 0, 1) := by decide +kernel
theorem dJ2_getChar_3b067_12 : decode cJ2_getChar_3b067 12 = .ok (.invokestatic 48, 3) := by decide +kernel
theorem dJ2_getChar_3b067_15 : decode cJ2_getChar_3b067 15 = .ok (.if_icmp .lt 13, 3) := by decide +kernel
theorem dJ2_getChar_3b067_18 : decode cJ2_getChar_3b067 18 = .ok (.new 52, 3) := by decide +kernel
theorem dJ2_getChar_3b067_21 : decode cJ2_getChar_3b067 21 = .ok (.dup, 1) := by decide +kernel
theorem dJ2_getChar_3b067_22 : decode cJ2_getChar_3b067 22 = .ok (.ldc 54, 2) := by decide +kernel
theorem dJ2_getChar_3b067_24 : decode cJ2_getChar_3b067 24 = .ok (.invokespecial 56, 3) := by decide +kernel
theorem dJ2_getChar_3b067_27 : decode cJ2_getChar_3b067 27 = .ok (.athrow, 1) := by decide +kernel
theorem dJ2_getChar_3b067_28 : decode cJ2_getChar_3b067 28 = .ok (.iload_n 1, 1) := by decide +kernel
theorem dJ2_getChar_3b067_29 : decode cJ2_getChar_3b067 29 = .ok (.iconst 1, 1) := by decide +kernel
theorem dJ2_getChar_3b067_30 : decode cJ2_getChar_3b067 30 = .ok (.ishl, 1) := by decide +kernel
theorem dJ2_getChar_3b067_31 : decode cJ2_getChar_3b067 31 = .ok (.istore_n 1, 1) := by decide +kernel
theorem dJ2_getChar_3b067_32 : decode cJ2_getChar_3b067 32 = .ok (.aload_n 0, 1) := by decide +kernel
theorem dJ2_getChar_3b067_33 : decode cJ2_getChar_3b067 33 = .ok (.iload_n 1, 1) := by decide +kernel
theorem dJ2_getChar_3b067_34 : decode cJ2_getChar_3b067 34 = .ok (.iinc 1 1, 3) := by decide +kernel
theorem dJ2_getChar_3b067_37 : decode cJ2_getChar_3b067 37 = .ok (.baload, 1) := by decide +kernel
theorem dJ2_getChar_3b067_38 : decode cJ2_getChar_3b067 38 = .ok (.sipush 255, 3) := by decide +kernel
theorem dJ2_getChar_3b067_41 : decode cJ2_getChar_3b067 41 = .ok (.iand, 1) := by decide +kernel
theorem dJ2_getChar_3b067_42 : decode cJ2_getChar_3b067 42 = .ok (.getstatic 59, 3) := by decide +kernel
theorem dJ2_getChar_3b067_45 : decode cJ2_getChar_3b067 45 = .ok (.ishl, 1) := by decide +kernel
theorem dJ2_getChar_3b067_46 : decode cJ2_getChar_3b067 46 = .ok (.aload_n 0, 1) := by decide +kernel
theorem dJ2_getChar_3b067_47 : decode cJ2_getChar_3b067 47 = .ok (.iload_n 1, 1) := by decide +kernel
theorem dJ2_getChar_3b067_48 : decode cJ2_getChar_3b067 48 = .ok (.baload, 1) := by decide +kernel
theorem dJ2_getChar_3b067_49 : decode cJ2_getChar_3b067 49 = .ok (.sipush 255, 3) := by decide +kernel
theorem dJ2_getChar_3b067_52 : decode cJ2_getChar_3b067 52 = .ok (.iand, 1) := by decide +kernel
theorem dJ2_getChar_3b067_53 : decode cJ2_getChar_3b067 53 = .ok (.getstatic 63, 3) := by decide +kernel
theorem dJ2_getChar_3b067_56 : decode cJ2_getChar_3b067 56 = .ok (.ishl, 1) := by decide +kernel
theorem dJ2_getChar_3b067_57 : decode cJ2_getChar_3b067 57 = .ok (.ior, 1) := by decide +kernel
theorem dJ2_getChar_3b067_58 : decode cJ2_getChar_3b067 58 = .ok (.i2c, 1) := by decide +kernel
theorem dJ2_getChar_3b067_59 : decode cJ2_getChar_3b067 59 = .ok (.ireturn, 1) := by decide +kernel
theorem dJ2_length_9d52b_0 : decode cJ2_length_9d52b 0 = .ok (.aload_n 0, 1) := by decide +kernel
theorem dJ2_length_9d52b_1 : decode cJ2_length_9d52b 1 = .ok (.arraylength, 1) := by decide +kernel
theorem dJ2_length_9d52b_2 : decode cJ2_length_9d52b 2 = .ok (.iconst 1, 1) := by decide +kernel
theorem dJ2_length_9d52b_3 : decode cJ2_length_9d52b 3 = .ok (.ishr, 1) := by decide +kernel
theorem dJ2_length_9d52b_4 : decode cJ2_length_9d52b 4 = .ok (.ireturn, 1) := by decide +kernel
theorem dJ2_charAt_3b067_0 : decode cJ2_charAt_3b067 0 = .ok (.iload_n 1, 1) := by decide +kernel
theorem dJ2_charAt_3b067_1 : decode cJ2_charAt_3b067 1 = .ok (.aload_n 0, 1) := by decide +kernel
theorem dJ2_charAt_3b067_2 : decode cJ2_charAt_3b067 2 = .ok (.invokestatic 67, 3) := by decide +kernel
theorem dJ2_charAt_3b067_5 : decode cJ2_charAt_3b067 5 = .ok (.aload_n 0, 1) := by decide +kernel
theorem dJ2_charAt_3b067_6 : decode cJ2_charAt_3b067 6 = .ok (.iload_n 1, 1) := by decide +kernel
theorem dJ2_charAt_3b067_7 : decode cJ2_charAt_3b067 7 = .ok (.invokestatic 71, 3) := by decide +kernel
theorem dJ2_charAt_3b067_10 : decode cJ2_charAt_3b067 10 = .ok (.ireturn, 1) := by decide +kernel
theorem dJ2_checkIndex_2214a_0 : decode cJ2_checkIndex_2214a 0 = .ok (.iload_n 0, 1) := by decide +kernel
theorem dJ2_checkIndex_2214a_1 : decode cJ2_checkIndex_2214a 1 = .ok (.aload_n 1, 1) := by decide +kernel
theorem dJ2_checkIndex_2214a_2 : decode cJ2_checkIndex_2214a 2 = .ok (.invokestatic 48, 3) := by decide +kernel
theorem dJ2_checkIndex_2214a_5 : decode cJ2_checkIndex_2214a 5 = .ok (.invokestatic 414, 3) := by decide +kernel
theorem dJ2_checkIndex_2214a_8 : decode cJ2_checkIndex_2214a 8 = .ok (.return_, 1) := by decide +kernel
theorem dJ3_checkIndex_8e157_0 : decode cJ3_checkIndex_8e157 0 = .ok (.iload_n 0, 1) := by decide +kernel
theorem dJ3_checkIndex_8e157_1 : decode cJ3_checkIndex_8e157 1 = .ok (.ifCond .lt 8, 3) := by decide +kernel
theorem dJ3_checkIndex_8e157_4 : decode cJ3_checkIndex_8e157 4 = .ok (.iload_n 0, 1) := by decide +kernel
theorem dJ3_checkIndex_8e157_5 : decode cJ3_checkIndex_8e157 5 = .ok (.iload_n 1, 1) := by decide +kernel
theorem dJ3_checkIndex_8e157_6 : decode cJ3_checkIndex_8e157 6 = .ok (.if_icmp .lt 10, 3) := by decide +kernel
theorem dJ3_checkIndex_8e157_9 : decode cJ3_checkIndex_8e157 9 = .ok (.aload_n 2, 1) := by decide +kernel
theorem dJ3_checkIndex_8e157_10 : decode cJ3_checkIndex_8e157 10 = .ok (.iload_n 0, 1) := by decide +kernel
theorem dJ3_checkIndex_8e157_11 : decode cJ3_checkIndex_8e157 11 = .ok (.iload_n 1, 1) := by decide +kernel
theorem dJ3_checkIndex_8e157_12 : decode cJ3_checkIndex_8e157 12 = .ok (.invokestatic 95, 3) := by decide +kernel
theorem dJ3_checkIndex_8e157_15 : decode cJ3_checkIndex_8e157 15 = .ok (.athrow, 1) := by decide +kernel
theorem dJ3_checkIndex_8e157_16 : decode cJ3_checkIndex_8e157 16 = .ok (.iload_n 0, 1) := by decide +kernel
theorem dJ3_checkIndex_8e157_17 : decode cJ3_checkIndex_8e157 17 = .ok (.ireturn, 1) := by decide +kernel
theorem dL_most_0 : decode cL_most 0 = .ok (.iload_n 0, 1) := by decide +kernel
theorem dL_most_1 : decode cL_most 1 = .ok (.ldc 7, 2) := by decide +kernel
theorem dL_most_3 : decode cL_most 3 = .ok (.iand, 1) := by decide +kernel
theorem dL_most_4 : decode cL_most 4 = .ok (.iload_n 1, 1) := by decide +kernel
theorem dL_most_5 : decode cL_most 5 = .ok (.irem, 1) := by decide +kernel
theorem dL_most_6 : decode cL_most 6 = .ok (.ireturn, 1) := by decide +kernel
theorem dL_cell_0 : decode cL_cell 0 = .ok (.iload_n 1, 1) := by decide +kernel
theorem dL_cell_1 : decode cL_cell 1 = .ok (.aload_n 0, 1) := by decide +kernel
theorem dL_cell_2 : decode cL_cell 2 = .ok (.arraylength, 1) := by decide +kernel
theorem dL_cell_3 : decode cL_cell 3 = .ok (.if_icmp .ge 9, 3) := by decide +kernel
theorem dL_cell_6 : decode cL_cell 6 = .ok (.aload_n 0, 1) := by decide +kernel
theorem dL_cell_7 : decode cL_cell 7 = .ok (.iload_n 1, 1) := by decide +kernel
theorem dL_cell_8 : decode cL_cell 8 = .ok (.iaload, 1) := by decide +kernel
theorem dL_cell_9 : decode cL_cell 9 = .ok (.goto 7, 3) := by decide +kernel
theorem dL_cell_12 : decode cL_cell 12 = .ok (.bipush 37, 2) := by decide +kernel
theorem dL_cell_14 : decode cL_cell 14 = .ok (.iload_n 1, 1) := by decide +kernel
theorem dL_cell_15 : decode cL_cell 15 = .ok (.imul, 1) := by decide +kernel
theorem dL_cell_16 : decode cL_cell 16 = .ok (.ireturn, 1) := by decide +kernel
theorem dL_add_0 : decode cL_add 0 = .ok (.aload_n 1, 1) := by decide +kernel
theorem dL_add_1 : decode cL_add 1 = .ok (.aload_n 1, 1) := by decide +kernel
theorem dL_add_2 : decode cL_add 2 = .ok (.iconst 5, 1) := by decide +kernel
theorem dL_add_3 : decode cL_add 3 = .ok (.iaload, 1) := by decide +kernel
theorem dL_add_4 : decode cL_add 4 = .ok (.bipush 20, 2) := by decide +kernel
theorem dL_add_6 : decode cL_add 6 = .ok (.irem, 1) := by decide +kernel
theorem dL_add_7 : decode cL_add 7 = .ok (.iconst 4, 1) := by decide +kernel
theorem dL_add_8 : decode cL_add 8 = .ok (.idiv, 1) := by decide +kernel
theorem dL_add_9 : decode cL_add 9 = .ok (.dup2, 1) := by decide +kernel
theorem dL_add_10 : decode cL_add 10 = .ok (.iaload, 1) := by decide +kernel
theorem dL_add_11 : decode cL_add 11 = .ok (.iload_n 2, 1) := by decide +kernel
theorem dL_add_12 : decode cL_add 12 = .ok (.bipush 24, 2) := by decide +kernel
theorem dL_add_14 : decode cL_add 14 = .ok (.bipush 8, 2) := by decide +kernel
theorem dL_add_16 : decode cL_add 16 = .ok (.aload_n 1, 1) := by decide +kernel
theorem dL_add_17 : decode cL_add 17 = .ok (.iconst 5, 1) := by decide +kernel
theorem dL_add_18 : decode cL_add 18 = .ok (.iaload, 1) := by decide +kernel
theorem dL_add_19 : decode cL_add 19 = .ok (.iconst 4, 1) := by decide +kernel
theorem dL_add_20 : decode cL_add 20 = .ok (.irem, 1) := by decide +kernel
theorem dL_add_21 : decode cL_add 21 = .ok (.imul, 1) := by decide +kernel
theorem dL_add_22 : decode cL_add 22 = .ok (.isub, 1) := by decide +kernel
theorem dL_add_23 : decode cL_add 23 = .ok (.ishl, 1) := by decide +kernel
theorem dL_add_24 : decode cL_add 24 = .ok (.ior, 1) := by decide +kernel
theorem dL_add_25 : decode cL_add 25 = .ok (.iastore, 1) := by decide +kernel
theorem dL_add_26 : decode cL_add 26 = .ok (.aload_n 1, 1) := by decide +kernel
theorem dL_add_27 : decode cL_add 27 = .ok (.iconst 5, 1) := by decide +kernel
theorem dL_add_28 : decode cL_add 28 = .ok (.dup2, 1) := by decide +kernel
theorem dL_add_29 : decode cL_add 29 = .ok (.iaload, 1) := by decide +kernel
theorem dL_add_30 : decode cL_add 30 = .ok (.iconst 1, 1) := by decide +kernel
theorem dL_add_31 : decode cL_add 31 = .ok (.iadd, 1) := by decide +kernel
theorem dL_add_32 : decode cL_add 32 = .ok (.iastore, 1) := by decide +kernel
theorem dL_add_33 : decode cL_add 33 = .ok (.aload_n 1, 1) := by decide +kernel
theorem dL_add_34 : decode cL_add 34 = .ok (.iconst 5, 1) := by decide +kernel
theorem dL_add_35 : decode cL_add 35 = .ok (.iaload, 1) := by decide +kernel
theorem dL_add_36 : decode cL_add 36 = .ok (.bipush 20, 2) := by decide +kernel
theorem dL_add_38 : decode cL_add 38 = .ok (.irem, 1) := by decide +kernel
theorem dL_add_39 : decode cL_add 39 = .ok (.ifCond .eq 4, 3) := by decide +kernel
theorem dL_add_42 : decode cL_add 42 = .ok (.return_, 1) := by decide +kernel
theorem dL_add_43 : decode cL_add 43 = .ok (.aload_n 0, 1) := by decide +kernel
theorem dL_add_44 : decode cL_add 44 = .ok (.aload_n 1, 1) := by decide +kernel
theorem dL_add_45 : decode cL_add 45 = .ok (.iconst 0, 1) := by decide +kernel
theorem dL_add_46 : decode cL_add 46 = .ok (.iaload, 1) := by decide +kernel
theorem dL_add_47 : decode cL_add 47 = .ok (.aload_n 1, 1) := by decide +kernel
theorem dL_add_48 : decode cL_add 48 = .ok (.iconst 1, 1) := by decide +kernel
theorem dL_add_49 : decode cL_add 49 = .ok (.iaload, 1) := by decide +kernel
theorem dL_add_50 : decode cL_add 50 = .ok (.aload_n 1, 1) := by decide +kernel
theorem dL_add_51 : decode cL_add 51 = .ok (.iconst 2, 1) := by decide +kernel
theorem dL_add_52 : decode cL_add 52 = .ok (.iaload, 1) := by decide +kernel
theorem dL_add_53 : decode cL_add 53 = .ok (.aload_n 1, 1) := by decide +kernel
theorem dL_add_54 : decode cL_add 54 = .ok (.iconst 3, 1) := by decide +kernel
theorem dL_add_55 : decode cL_add 55 = .ok (.iaload, 1) := by decide +kernel
theorem dL_add_56 : decode cL_add 56 = .ok (.aload_n 1, 1) := by decide +kernel
theorem dL_add_57 : decode cL_add 57 = .ok (.iconst 4, 1) := by decide +kernel
theorem dL_add_58 : decode cL_add 58 = .ok (.iaload, 1) := by decide +kernel
theorem dL_add_59 : decode cL_add 59 = .ok (.invokevirtual 8, 3) := by decide +kernel
theorem dL_add_62 : decode cL_add 62 = .ok (.pop, 1) := by decide +kernel
theorem dL_add_63 : decode cL_add 63 = .ok (.iconst 0, 1) := by decide +kernel
theorem dL_add_64 : decode cL_add 64 = .ok (.istore_n 3, 1) := by decide +kernel
theorem dL_add_65 : decode cL_add 65 = .ok (.iload_n 3, 1) := by decide +kernel
theorem dL_add_66 : decode cL_add 66 = .ok (.iconst 5, 1) := by decide +kernel
theorem dL_add_67 : decode cL_add 67 = .ok (.if_icmp .ge 13, 3) := by decide +kernel
theorem dL_add_70 : decode cL_add 70 = .ok (.aload_n 1, 1) := by decide +kernel
theorem dL_add_71 : decode cL_add 71 = .ok (.iload_n 3, 1) := by decide +kernel
theorem dL_add_72 : decode cL_add 72 = .ok (.iconst 0, 1) := by decide +kernel
theorem dL_add_73 : decode cL_add 73 = .ok (.iastore, 1) := by decide +kernel
theorem dL_add_74 : decode cL_add 74 = .ok (.iinc 3 1, 3) := by decide +kernel
theorem dL_add_77 : decode cL_add 77 = .ok (.goto (-12), 3) := by decide +kernel
theorem dL_add_80 : decode cL_add 80 = .ok (.return_, 1) := by decide +kernel
theorem dL_number_0 : decode cL_number 0 = .ok (.iconst 1, 1) := by decide +kernel
theorem dL_number_1 : decode cL_number 1 = .ok (.istore_n 3, 1) := by decide +kernel
theorem dL_number_2 : decode cL_number 2 = .ok (.iload_n 3, 1) := by decide +kernel
theorem dL_number_3 : decode cL_number 3 = .ok (.iload_n 2, 1) := by decide +kernel
theorem dL_number_4 : decode cL_number 4 = .ok (.bipush 10, 2) := by decide +kernel
theorem dL_number_6 : decode cL_number 6 = .ok (.idiv, 1) := by decide +kernel
theorem dL_number_7 : decode cL_number 7 = .ok (.if_icmp .gt 11, 3) := by decide +kernel
theorem dL_number_10 : decode cL_number 10 = .ok (.iload_n 3, 1) := by decide +kernel
theorem dL_number_11 : decode cL_number 11 = .ok (.bipush 10, 2) := by decide +kernel
theorem dL_number_13 : decode cL_number 13 = .ok (.imul, 1) := by decide +kernel
theorem dL_number_14 : decode cL_number 14 = .ok (.istore_n 3, 1) := by decide +kernel
theorem dL_number_15 : decode cL_number 15 = .ok (.goto (-13), 3) := by decide +kernel
theorem dL_number_18 : decode cL_number 18 = .ok (.iload_n 3, 1) := by decide +kernel
theorem dL_number_19 : decode cL_number 19 = .ok (.ifCond .le 25, 3) := by decide +kernel
theorem dL_number_22 : decode cL_number 22 = .ok (.aload_n 0, 1) := by decide +kernel
theorem dL_number_23 : decode cL_number 23 = .ok (.aload_n 1, 1) := by decide +kernel
theorem dL_number_24 : decode cL_number 24 = .ok (.bipush 48, 2) := by decide +kernel
theorem dL_number_26 : decode cL_number 26 = .ok (.iload_n 2, 1) := by decide +kernel
theorem dL_number_27 : decode cL_number 27 = .ok (.iload_n 3, 1) := by decide +kernel
theorem dL_number_28 : decode cL_number 28 = .ok (.idiv, 1) := by decide +kernel
theorem dL_number_29 : decode cL_number 29 = .ok (.bipush 10, 2) := by decide +kernel
theorem dL_number_31 : decode cL_number 31 = .ok (.irem, 1) := by decide +kernel
theorem dL_number_32 : decode cL_number 32 = .ok (.iadd, 1) := by decide +kernel
theorem dL_number_33 : decode cL_number 33 = .ok (.invokestatic 14, 3) := by decide +kernel
theorem dL_number_36 : decode cL_number 36 = .ok (.iload_n 3, 1) := by decide +kernel
theorem dL_number_37 : decode cL_number 37 = .ok (.bipush 10, 2) := by decide +kernel
theorem dL_number_39 : decode cL_number 39 = .ok (.idiv, 1) := by decide +kernel
theorem dL_number_40 : decode cL_number 40 = .ok (.istore_n 3, 1) := by decide +kernel
theorem dL_number_41 : decode cL_number 41 = .ok (.goto (-23), 3) := by decide +kernel
theorem dL_number_44 : decode cL_number 44 = .ok (.return_, 1) := by decide +kernel
theorem dL_end_0 : decode cL_end 0 = .ok (.aload_n 1, 1) := by decide +kernel
theorem dL_end_1 : decode cL_end 1 = .ok (.iconst 5, 1) := by decide +kernel
theorem dL_end_2 : decode cL_end 2 = .ok (.iaload, 1) := by decide +kernel
theorem dL_end_3 : decode cL_end 3 = .ok (.istore_n 2, 1) := by decide +kernel
theorem dL_end_4 : decode cL_end 4 = .ok (.aload_n 1, 1) := by decide +kernel
theorem dL_end_5 : decode cL_end 5 = .ok (.iconst 5, 1) := by decide +kernel
theorem dL_end_6 : decode cL_end 6 = .ok (.iaload, 1) := by decide +kernel
theorem dL_end_7 : decode cL_end 7 = .ok (.bipush 20, 2) := by decide +kernel
theorem dL_end_9 : decode cL_end 9 = .ok (.irem, 1) := by decide +kernel
theorem dL_end_10 : decode cL_end 10 = .ok (.ifCond .eq 13, 3) := by decide +kernel
theorem dL_end_13 : decode cL_end 13 = .ok (.aload_n 0, 1) := by decide +kernel
theorem dL_end_14 : decode cL_end 14 = .ok (.aload_n 1, 1) := by decide +kernel
theorem dL_end_15 : decode cL_end 15 = .ok (.bipush 32, 2) := by decide +kernel
theorem dL_end_17 : decode cL_end 17 = .ok (.invokestatic 14, 3) := by decide +kernel
theorem dL_end_20 : decode cL_end 20 = .ok (.goto (-16), 3) := by decide +kernel
theorem dL_end_23 : decode cL_end 23 = .ok (.aload_n 1, 1) := by decide +kernel
theorem dL_end_24 : decode cL_end 24 = .ok (.iconst 5, 1) := by decide +kernel
theorem dL_end_25 : decode cL_end 25 = .ok (.iconst 0, 1) := by decide +kernel
theorem dL_end_26 : decode cL_end 26 = .ok (.iastore, 1) := by decide +kernel
theorem dL_end_27 : decode cL_end 27 = .ok (.iload_n 2, 1) := by decide +kernel
theorem dL_end_28 : decode cL_end 28 = .ok (.ireturn, 1) := by decide +kernel
theorem dL_drawn_0 : decode cL_drawn 0 = .ok (.new 20, 3) := by decide +kernel
theorem dL_drawn_3 : decode cL_drawn 3 = .ok (.dup, 1) := by decide +kernel
theorem dL_drawn_4 : decode cL_drawn 4 = .ok (.invokespecial 22, 3) := by decide +kernel
theorem dL_drawn_7 : decode cL_drawn 7 = .ok (.astore_n 2, 1) := by decide +kernel
theorem dL_drawn_8 : decode cL_drawn 8 = .ok (.aload_n 0, 1) := by decide +kernel
theorem dL_drawn_9 : decode cL_drawn 9 = .ok (.iload_n 1, 1) := by decide +kernel
theorem dL_drawn_10 : decode cL_drawn 10 = .ok (.invokestatic 23, 3) := by decide +kernel
theorem dL_drawn_13 : decode cL_drawn 13 = .ok (.istore_n 3, 1) := by decide +kernel
theorem dL_drawn_14 : decode cL_drawn 14 = .ok (.aload_n 2, 1) := by decide +kernel
theorem dL_drawn_15 : decode cL_drawn 15 = .ok (.iconst 4, 1) := by decide +kernel
theorem dL_drawn_16 : decode cL_drawn 16 = .ok (.iload_n 3, 1) := by decide +kernel
theorem dL_drawn_17 : decode cL_drawn 17 = .ok (.bipush 10, 2) := by decide +kernel
theorem dL_drawn_19 : decode cL_drawn 19 = .ok (.invokestatic 27, 3) := by decide +kernel
theorem dL_drawn_22 : decode cL_drawn 22 = .ok (.iadd, 1) := by decide +kernel
theorem dL_drawn_23 : decode cL_drawn 23 = .ok (.putfield 31, 3) := by decide +kernel
theorem dL_drawn_26 : decode cL_drawn 26 = .ok (.iconst 0, 1) := by decide +kernel
theorem dL_drawn_27 : decode cL_drawn 27 = .ok (.istore 4, 2) := by decide +kernel
theorem dL_drawn_29 : decode cL_drawn 29 = .ok (.iload 4, 2) := by decide +kernel
theorem dL_drawn_31 : decode cL_drawn 31 = .ok (.bipush 16, 2) := by decide +kernel
theorem dL_drawn_33 : decode cL_drawn 33 = .ok (.if_icmp .ge 17, 3) := by decide +kernel
theorem dL_drawn_36 : decode cL_drawn 36 = .ok (.aload_n 2, 1) := by decide +kernel
theorem dL_drawn_37 : decode cL_drawn 37 = .ok (.getfield 35, 3) := by decide +kernel
theorem dL_drawn_40 : decode cL_drawn 40 = .ok (.iload 4, 2) := by decide +kernel
theorem dL_drawn_42 : decode cL_drawn 42 = .ok (.iconst (-1), 1) := by decide +kernel
theorem dL_drawn_43 : decode cL_drawn 43 = .ok (.iastore, 1) := by decide +kernel
theorem dL_drawn_44 : decode cL_drawn 44 = .ok (.iinc 4 1, 3) := by decide +kernel
theorem dL_drawn_47 : decode cL_drawn 47 = .ok (.goto (-18), 3) := by decide +kernel
theorem dL_drawn_50 : decode cL_drawn 50 = .ok (.iconst 0, 1) := by decide +kernel
theorem dL_drawn_51 : decode cL_drawn 51 = .ok (.istore 4, 2) := by decide +kernel
theorem dL_drawn_53 : decode cL_drawn 53 = .ok (.iload 4, 2) := by decide +kernel
theorem dL_drawn_55 : decode cL_drawn 55 = .ok (.aload_n 2, 1) := by decide +kernel
theorem dL_drawn_56 : decode cL_drawn 56 = .ok (.getfield 31, 3) := by decide +kernel
theorem dL_drawn_59 : decode cL_drawn 59 = .ok (.if_icmp .ge 65, 3) := by decide +kernel
theorem dL_drawn_62 : decode cL_drawn 62 = .ok (.aload_n 0, 1) := by decide +kernel
theorem dL_drawn_63 : decode cL_drawn 63 = .ok (.iload_n 1, 1) := by decide +kernel
theorem dL_drawn_64 : decode cL_drawn 64 = .ok (.iconst 1, 1) := by decide +kernel
theorem dL_drawn_65 : decode cL_drawn 65 = .ok (.iadd, 1) := by decide +kernel
theorem dL_drawn_66 : decode cL_drawn 66 = .ok (.iload 4, 2) := by decide +kernel
theorem dL_drawn_68 : decode cL_drawn 68 = .ok (.bipush 6, 2) := by decide +kernel
theorem dL_drawn_70 : decode cL_drawn 70 = .ok (.irem, 1) := by decide +kernel
theorem dL_drawn_71 : decode cL_drawn 71 = .ok (.iadd, 1) := by decide +kernel
theorem dL_drawn_72 : decode cL_drawn 72 = .ok (.invokestatic 23, 3) := by decide +kernel
theorem dL_drawn_75 : decode cL_drawn 75 = .ok (.iload 4, 2) := by decide +kernel
theorem dL_drawn_77 : decode cL_drawn 77 = .ok (.bipush 6, 2) := by decide +kernel
theorem dL_drawn_79 : decode cL_drawn 79 = .ok (.idiv, 1) := by decide +kernel
theorem dL_drawn_80 : decode cL_drawn 80 = .ok (.iconst 4, 1) := by decide +kernel
theorem dL_drawn_81 : decode cL_drawn 81 = .ok (.imul, 1) := by decide +kernel
theorem dL_drawn_82 : decode cL_drawn 82 = .ok (.ishr, 1) := by decide +kernel
theorem dL_drawn_83 : decode cL_drawn 83 = .ok (.istore 5, 2) := by decide +kernel
theorem dL_drawn_85 : decode cL_drawn 85 = .ok (.aload_n 2, 1) := by decide +kernel
theorem dL_drawn_86 : decode cL_drawn 86 = .ok (.getfield 39, 3) := by decide +kernel
theorem dL_drawn_89 : decode cL_drawn 89 = .ok (.iload 4, 2) := by decide +kernel
theorem dL_drawn_91 : decode cL_drawn 91 = .ok (.iload 5, 2) := by decide +kernel
theorem dL_drawn_93 : decode cL_drawn 93 = .ok (.sipush 2101, 3) := by decide +kernel
theorem dL_drawn_96 : decode cL_drawn 96 = .ok (.invokestatic 27, 3) := by decide +kernel
theorem dL_drawn_99 : decode cL_drawn 99 = .ok (.iastore, 1) := by decide +kernel
theorem dL_drawn_100 : decode cL_drawn 100 = .ok (.aload_n 2, 1) := by decide +kernel
theorem dL_drawn_101 : decode cL_drawn 101 = .ok (.getfield 42, 3) := by decide +kernel
theorem dL_drawn_104 : decode cL_drawn 104 = .ok (.iload 4, 2) := by decide +kernel
theorem dL_drawn_106 : decode cL_drawn 106 = .ok (.iconst 2, 1) := by decide +kernel
theorem dL_drawn_107 : decode cL_drawn 107 = .ok (.iload 5, 2) := by decide +kernel
theorem dL_drawn_109 : decode cL_drawn 109 = .ok (.iconst 3, 1) := by decide +kernel
theorem dL_drawn_110 : decode cL_drawn 110 = .ok (.ishr, 1) := by decide +kernel
theorem dL_drawn_111 : decode cL_drawn 111 = .ok (.bipush 7, 2) := by decide +kernel
theorem dL_drawn_113 : decode cL_drawn 113 = .ok (.invokestatic 27, 3) := by decide +kernel
theorem dL_drawn_116 : decode cL_drawn 116 = .ok (.iadd, 1) := by decide +kernel
theorem dL_drawn_117 : decode cL_drawn 117 = .ok (.iastore, 1) := by decide +kernel
theorem dL_drawn_118 : decode cL_drawn 118 = .ok (.iinc 4 1, 3) := by decide +kernel
theorem dL_drawn_121 : decode cL_drawn 121 = .ok (.goto (-68), 3) := by decide +kernel
theorem dL_drawn_124 : decode cL_drawn 124 = .ok (.iconst 1, 1) := by decide +kernel
theorem dL_drawn_125 : decode cL_drawn 125 = .ok (.iload_n 3, 1) := by decide +kernel
theorem dL_drawn_126 : decode cL_drawn 126 = .ok (.iconst 4, 1) := by decide +kernel
theorem dL_drawn_127 : decode cL_drawn 127 = .ok (.ishr, 1) := by decide +kernel
theorem dL_drawn_128 : decode cL_drawn 128 = .ok (.bipush 9, 2) := by decide +kernel
theorem dL_drawn_130 : decode cL_drawn 130 = .ok (.invokestatic 27, 3) := by decide +kernel
theorem dL_drawn_133 : decode cL_drawn 133 = .ok (.iadd, 1) := by decide +kernel
theorem dL_drawn_134 : decode cL_drawn 134 = .ok (.istore 4, 2) := by decide +kernel
theorem dL_drawn_136 : decode cL_drawn 136 = .ok (.iconst 0, 1) := by decide +kernel
theorem dL_drawn_137 : decode cL_drawn 137 = .ok (.istore 5, 2) := by decide +kernel
theorem dL_drawn_139 : decode cL_drawn 139 = .ok (.iload 5, 2) := by decide +kernel
theorem dL_drawn_141 : decode cL_drawn 141 = .ok (.iload 4, 2) := by decide +kernel
theorem dL_drawn_143 : decode cL_drawn 143 = .ok (.if_icmp .ge 192, 3) := by decide +kernel
theorem dL_drawn_146 : decode cL_drawn 146 = .ok (.aload_n 0, 1) := by decide +kernel
theorem dL_drawn_147 : decode cL_drawn 147 = .ok (.iload_n 1, 1) := by decide +kernel
theorem dL_drawn_148 : decode cL_drawn 148 = .ok (.bipush 7, 2) := by decide +kernel
theorem dL_drawn_150 : decode cL_drawn 150 = .ok (.iadd, 1) := by decide +kernel
theorem dL_drawn_151 : decode cL_drawn 151 = .ok (.iload 5, 2) := by decide +kernel
theorem dL_drawn_153 : decode cL_drawn 153 = .ok (.iconst 5, 1) := by decide +kernel
theorem dL_drawn_154 : decode cL_drawn 154 = .ok (.irem, 1) := by decide +kernel
theorem dL_drawn_155 : decode cL_drawn 155 = .ok (.iadd, 1) := by decide +kernel
theorem dL_drawn_156 : decode cL_drawn 156 = .ok (.invokestatic 23, 3) := by decide +kernel
theorem dL_drawn_159 : decode cL_drawn 159 = .ok (.iload 5, 2) := by decide +kernel
theorem dL_drawn_161 : decode cL_drawn 161 = .ok (.iconst 5, 1) := by decide +kernel
theorem dL_drawn_162 : decode cL_drawn 162 = .ok (.idiv, 1) := by decide +kernel
theorem dL_drawn_163 : decode cL_drawn 163 = .ok (.iconst 4, 1) := by decide +kernel
theorem dL_drawn_164 : decode cL_drawn 164 = .ok (.imul, 1) := by decide +kernel
theorem dL_drawn_165 : decode cL_drawn 165 = .ok (.ishr, 1) := by decide +kernel
theorem dL_drawn_166 : decode cL_drawn 166 = .ok (.istore 6, 2) := by decide +kernel
theorem dL_drawn_168 : decode cL_drawn 168 = .ok (.iload 6, 2) := by decide +kernel
theorem dL_drawn_170 : decode cL_drawn 170 = .ok (.aload_n 2, 1) := by decide +kernel
theorem dL_drawn_171 : decode cL_drawn 171 = .ok (.getfield 31, 3) := by decide +kernel
theorem dL_drawn_174 : decode cL_drawn 174 = .ok (.invokestatic 27, 3) := by decide +kernel
theorem dL_drawn_177 : decode cL_drawn 177 = .ok (.istore 7, 2) := by decide +kernel
theorem dL_drawn_179 : decode cL_drawn 179 = .ok (.iload 6, 2) := by decide +kernel
theorem dL_drawn_181 : decode cL_drawn 181 = .ok (.iconst 4, 1) := by decide +kernel
theorem dL_drawn_182 : decode cL_drawn 182 = .ok (.ishr, 1) := by decide +kernel
theorem dL_drawn_183 : decode cL_drawn 183 = .ok (.aload_n 2, 1) := by decide +kernel
theorem dL_drawn_184 : decode cL_drawn 184 = .ok (.getfield 31, 3) := by decide +kernel
theorem dL_drawn_187 : decode cL_drawn 187 = .ok (.invokestatic 27, 3) := by decide +kernel
theorem dL_drawn_190 : decode cL_drawn 190 = .ok (.istore 8, 2) := by decide +kernel
theorem dL_drawn_192 : decode cL_drawn 192 = .ok (.iload 7, 2) := by decide +kernel
theorem dL_drawn_194 : decode cL_drawn 194 = .ok (.iload 8, 2) := by decide +kernel
theorem dL_drawn_196 : decode cL_drawn 196 = .ok (.if_icmp .eq 133, 3) := by decide +kernel
theorem dL_drawn_199 : decode cL_drawn 199 = .ok (.aload_n 2, 1) := by decide +kernel
theorem dL_drawn_200 : decode cL_drawn 200 = .ok (.iload 7, 2) := by decide +kernel
theorem dL_drawn_202 : decode cL_drawn 202 = .ok (.iload 8, 2) := by decide +kernel
theorem dL_drawn_204 : decode cL_drawn 204 = .ok (.invokestatic 45, 3) := by decide +kernel
theorem dL_drawn_207 : decode cL_drawn 207 = .ok (.ifCond .eq 6, 3) := by decide +kernel
theorem dL_drawn_210 : decode cL_drawn 210 = .ok (.goto 119, 3) := by decide +kernel
theorem dL_drawn_213 : decode cL_drawn 213 = .ok (.aload_n 2, 1) := by decide +kernel
theorem dL_drawn_214 : decode cL_drawn 214 = .ok (.getfield 49, 3) := by decide +kernel
theorem dL_drawn_217 : decode cL_drawn 217 = .ok (.aload_n 2, 1) := by decide +kernel
theorem dL_drawn_218 : decode cL_drawn 218 = .ok (.getfield 53, 3) := by decide +kernel
theorem dL_drawn_221 : decode cL_drawn 221 = .ok (.iconst 3, 1) := by decide +kernel
theorem dL_drawn_222 : decode cL_drawn 222 = .ok (.newarray .int, 2) := by decide +kernel
theorem dL_drawn_224 : decode cL_drawn 224 = .ok (.dup, 1) := by decide +kernel
theorem dL_drawn_225 : decode cL_drawn 225 = .ok (.iconst 0, 1) := by decide +kernel
theorem dL_drawn_226 : decode cL_drawn 226 = .ok (.iload 7, 2) := by decide +kernel
theorem dL_drawn_228 : decode cL_drawn 228 = .ok (.iastore, 1) := by decide +kernel
theorem dL_drawn_229 : decode cL_drawn 229 = .ok (.dup, 1) := by decide +kernel
theorem dL_drawn_230 : decode cL_drawn 230 = .ok (.iconst 1, 1) := by decide +kernel
theorem dL_drawn_231 : decode cL_drawn 231 = .ok (.iload 8, 2) := by decide +kernel
theorem dL_drawn_233 : decode cL_drawn 233 = .ok (.iastore, 1) := by decide +kernel
theorem dL_drawn_234 : decode cL_drawn 234 = .ok (.dup, 1) := by decide +kernel
theorem dL_drawn_235 : decode cL_drawn 235 = .ok (.iconst 2, 1) := by decide +kernel
theorem dL_drawn_236 : decode cL_drawn 236 = .ok (.iload 6, 2) := by decide +kernel
theorem dL_drawn_238 : decode cL_drawn 238 = .ok (.bipush 6, 2) := by decide +kernel
theorem dL_drawn_240 : decode cL_drawn 240 = .ok (.ishr, 1) := by decide +kernel
theorem dL_drawn_241 : decode cL_drawn 241 = .ok (.sipush 2101, 3) := by decide +kernel
theorem dL_drawn_244 : decode cL_drawn 244 = .ok (.invokestatic 27, 3) := by decide +kernel
theorem dL_drawn_247 : decode cL_drawn 247 = .ok (.iastore, 1) := by decide +kernel
theorem dL_drawn_248 : decode cL_drawn 248 = .ok (.aastore, 1) := by decide +kernel
theorem dL_drawn_249 : decode cL_drawn 249 = .ok (.aload_n 2, 1) := by decide +kernel
theorem dL_drawn_250 : decode cL_drawn 250 = .ok (.dup, 1) := by decide +kernel
theorem dL_drawn_251 : decode cL_drawn 251 = .ok (.getfield 53, 3) := by decide +kernel
theorem dL_drawn_254 : decode cL_drawn 254 = .ok (.iconst 1, 1) := by decide +kernel
theorem dL_drawn_255 : decode cL_drawn 255 = .ok (.iadd, 1) := by decide +kernel
theorem dL_drawn_256 : decode cL_drawn 256 = .ok (.putfield 53, 3) := by decide +kernel
theorem dL_drawn_259 : decode cL_drawn 259 = .ok (.iconst 0, 1) := by decide +kernel
theorem dL_drawn_260 : decode cL_drawn 260 = .ok (.istore 9, 2) := by decide +kernel
theorem dL_drawn_262 : decode cL_drawn 262 = .ok (.iload 9, 2) := by decide +kernel
theorem dL_drawn_264 : decode cL_drawn 264 = .ok (.iconst 4, 1) := by decide +kernel
theorem dL_drawn_265 : decode cL_drawn 265 = .ok (.if_icmp .ge 64, 3) := by decide +kernel
theorem dL_drawn_268 : decode cL_drawn 268 = .ok (.iload 6, 2) := by decide +kernel
theorem dL_drawn_270 : decode cL_drawn 270 = .ok (.bipush 7, 2) := by decide +kernel
theorem dL_drawn_272 : decode cL_drawn 272 = .ok (.iload 9, 2) := by decide +kernel
theorem dL_drawn_274 : decode cL_drawn 274 = .ok (.iadd, 1) := by decide +kernel
theorem dL_drawn_275 : decode cL_drawn 275 = .ok (.ishr, 1) := by decide +kernel
theorem dL_drawn_276 : decode cL_drawn 276 = .ok (.aload_n 2, 1) := by decide +kernel
theorem dL_drawn_277 : decode cL_drawn 277 = .ok (.getfield 31, 3) := by decide +kernel
theorem dL_drawn_280 : decode cL_drawn 280 = .ok (.invokestatic 27, 3) := by decide +kernel
theorem dL_drawn_283 : decode cL_drawn 283 = .ok (.istore 10, 2) := by decide +kernel
theorem dL_drawn_285 : decode cL_drawn 285 = .ok (.aload_n 2, 1) := by decide +kernel
theorem dL_drawn_286 : decode cL_drawn 286 = .ok (.getfield 35, 3) := by decide +kernel
theorem dL_drawn_289 : decode cL_drawn 289 = .ok (.iload 10, 2) := by decide +kernel
theorem dL_drawn_291 : decode cL_drawn 291 = .ok (.iaload, 1) := by decide +kernel
theorem dL_drawn_292 : decode cL_drawn 292 = .ok (.ifCond .ge 31, 3) := by decide +kernel
theorem dL_drawn_295 : decode cL_drawn 295 = .ok (.aload_n 2, 1) := by decide +kernel
theorem dL_drawn_296 : decode cL_drawn 296 = .ok (.aload_n 2, 1) := by decide +kernel
theorem dL_drawn_297 : decode cL_drawn 297 = .ok (.getfield 53, 3) := by decide +kernel
theorem dL_drawn_300 : decode cL_drawn 300 = .ok (.iconst 1, 1) := by decide +kernel
theorem dL_drawn_301 : decode cL_drawn 301 = .ok (.isub, 1) := by decide +kernel
theorem dL_drawn_302 : decode cL_drawn 302 = .ok (.iload 10, 2) := by decide +kernel
theorem dL_drawn_304 : decode cL_drawn 304 = .ok (.invokestatic 56, 3) := by decide +kernel
theorem dL_drawn_307 : decode cL_drawn 307 = .ok (.ifCond .eq 16, 3) := by decide +kernel
theorem dL_drawn_310 : decode cL_drawn 310 = .ok (.aload_n 2, 1) := by decide +kernel
theorem dL_drawn_311 : decode cL_drawn 311 = .ok (.getfield 35, 3) := by decide +kernel
theorem dL_drawn_314 : decode cL_drawn 314 = .ok (.iload 10, 2) := by decide +kernel
theorem dL_drawn_316 : decode cL_drawn 316 = .ok (.aload_n 2, 1) := by decide +kernel
theorem dL_drawn_317 : decode cL_drawn 317 = .ok (.getfield 53, 3) := by decide +kernel
theorem dL_drawn_320 : decode cL_drawn 320 = .ok (.iconst 1, 1) := by decide +kernel
theorem dL_drawn_321 : decode cL_drawn 321 = .ok (.isub, 1) := by decide +kernel
theorem dL_drawn_322 : decode cL_drawn 322 = .ok (.iastore, 1) := by decide +kernel
theorem dL_drawn_323 : decode cL_drawn 323 = .ok (.iinc 9 1, 3) := by decide +kernel
theorem dL_drawn_326 : decode cL_drawn 326 = .ok (.goto (-64), 3) := by decide +kernel
theorem dL_drawn_329 : decode cL_drawn 329 = .ok (.iinc 5 1, 3) := by decide +kernel
theorem dL_drawn_332 : decode cL_drawn 332 = .ok (.goto (-193), 3) := by decide +kernel
theorem dL_drawn_335 : decode cL_drawn 335 = .ok (.aload_n 2, 1) := by decide +kernel
theorem dL_drawn_336 : decode cL_drawn 336 = .ok (.invokevirtual 59, 3) := by decide +kernel
theorem dL_drawn_339 : decode cL_drawn 339 = .ok (.aload_n 2, 1) := by decide +kernel
theorem dL_drawn_340 : decode cL_drawn 340 = .ok (.areturn, 1) := by decide +kernel
theorem dL_known_0 : decode cL_known 0 = .ok (.iconst 0, 1) := by decide +kernel
theorem dL_known_1 : decode cL_known 1 = .ok (.istore_n 3, 1) := by decide +kernel
theorem dL_known_2 : decode cL_known 2 = .ok (.iload_n 3, 1) := by decide +kernel
theorem dL_known_3 : decode cL_known 3 = .ok (.aload_n 0, 1) := by decide +kernel
theorem dL_known_4 : decode cL_known 4 = .ok (.getfield 53, 3) := by decide +kernel
theorem dL_known_7 : decode cL_known 7 = .ok (.if_icmp .ge 29, 3) := by decide +kernel
theorem dL_known_10 : decode cL_known 10 = .ok (.aload_n 0, 1) := by decide +kernel
theorem dL_known_11 : decode cL_known 11 = .ok (.iload_n 3, 1) := by decide +kernel
theorem dL_known_12 : decode cL_known 12 = .ok (.iload_n 1, 1) := by decide +kernel
theorem dL_known_13 : decode cL_known 13 = .ok (.invokevirtual 62, 3) := by decide +kernel
theorem dL_known_16 : decode cL_known 16 = .ok (.ifCond .eq 14, 3) := by decide +kernel
theorem dL_known_19 : decode cL_known 19 = .ok (.aload_n 0, 1) := by decide +kernel
theorem dL_known_20 : decode cL_known 20 = .ok (.iload_n 3, 1) := by decide +kernel
theorem dL_known_21 : decode cL_known 21 = .ok (.iload_n 2, 1) := by decide +kernel
theorem dL_known_22 : decode cL_known 22 = .ok (.invokevirtual 62, 3) := by decide +kernel
theorem dL_known_25 : decode cL_known 25 = .ok (.ifCond .eq 5, 3) := by decide +kernel
theorem dL_known_28 : decode cL_known 28 = .ok (.iconst 1, 1) := by decide +kernel
theorem dL_known_29 : decode cL_known 29 = .ok (.ireturn, 1) := by decide +kernel
theorem dL_known_30 : decode cL_known 30 = .ok (.iinc 3 1, 3) := by decide +kernel
theorem dL_known_33 : decode cL_known 33 = .ok (.goto (-31), 3) := by decide +kernel
theorem dL_known_36 : decode cL_known 36 = .ok (.iconst 0, 1) := by decide +kernel
theorem dL_known_37 : decode cL_known 37 = .ok (.ireturn, 1) := by decide +kernel
theorem dL_can_0 : decode cL_can 0 = .ok (.aload_n 0, 1) := by decide +kernel
theorem dL_can_1 : decode cL_can 1 = .ok (.iload_n 1, 1) := by decide +kernel
theorem dL_can_2 : decode cL_can 2 = .ok (.iload_n 2, 1) := by decide +kernel
theorem dL_can_3 : decode cL_can 3 = .ok (.invokevirtual 62, 3) := by decide +kernel
theorem dL_can_6 : decode cL_can 6 = .ok (.ifCond .ne 39, 3) := by decide +kernel
theorem dL_can_9 : decode cL_can 9 = .ok (.aload_n 0, 1) := by decide +kernel
theorem dL_can_10 : decode cL_can 10 = .ok (.aload_n 0, 1) := by decide +kernel
theorem dL_can_11 : decode cL_can 11 = .ok (.getfield 49, 3) := by decide +kernel
theorem dL_can_14 : decode cL_can 14 = .ok (.iload_n 1, 1) := by decide +kernel
theorem dL_can_15 : decode cL_can 15 = .ok (.aaload, 1) := by decide +kernel
theorem dL_can_16 : decode cL_can 16 = .ok (.iconst 0, 1) := by decide +kernel
theorem dL_can_17 : decode cL_can 17 = .ok (.iaload, 1) := by decide +kernel
theorem dL_can_18 : decode cL_can 18 = .ok (.invokevirtual 66, 3) := by decide +kernel
theorem dL_can_21 : decode cL_can 21 = .ok (.aload_n 0, 1) := by decide +kernel
theorem dL_can_22 : decode cL_can 22 = .ok (.aload_n 0, 1) := by decide +kernel
theorem dL_can_23 : decode cL_can 23 = .ok (.getfield 49, 3) := by decide +kernel
theorem dL_can_26 : decode cL_can 26 = .ok (.iload_n 1, 1) := by decide +kernel
theorem dL_can_27 : decode cL_can 27 = .ok (.aaload, 1) := by decide +kernel
theorem dL_can_28 : decode cL_can 28 = .ok (.iconst 1, 1) := by decide +kernel
theorem dL_can_29 : decode cL_can 29 = .ok (.iaload, 1) := by decide +kernel
theorem dL_can_30 : decode cL_can 30 = .ok (.invokevirtual 66, 3) := by decide +kernel
theorem dL_can_33 : decode cL_can 33 = .ok (.ior, 1) := by decide +kernel
theorem dL_can_34 : decode cL_can 34 = .ok (.iload_n 2, 1) := by decide +kernel
theorem dL_can_35 : decode cL_can 35 = .ok (.ishr, 1) := by decide +kernel
theorem dL_can_36 : decode cL_can 36 = .ok (.iconst 1, 1) := by decide +kernel
theorem dL_can_37 : decode cL_can 37 = .ok (.iand, 1) := by decide +kernel
theorem dL_can_38 : decode cL_can 38 = .ok (.ifCond .ne 7, 3) := by decide +kernel
theorem dL_can_41 : decode cL_can 41 = .ok (.iconst 1, 1) := by decide +kernel
theorem dL_can_42 : decode cL_can 42 = .ok (.goto 4, 3) := by decide +kernel
theorem dL_can_45 : decode cL_can 45 = .ok (.iconst 0, 1) := by decide +kernel
theorem dL_can_46 : decode cL_can 46 = .ok (.ireturn, 1) := by decide +kernel
theorem dL_word_0 : decode cL_word 0 = .ok (.iconst 0, 1) := by decide +kernel
theorem dL_word_1 : decode cL_word 1 = .ok (.istore_n 3, 1) := by decide +kernel
theorem dL_word_2 : decode cL_word 2 = .ok (.iload_n 3, 1) := by decide +kernel
theorem dL_word_3 : decode cL_word 3 = .ok (.aload_n 2, 1) := by decide +kernel
theorem dL_word_4 : decode cL_word 4 = .ok (.invokevirtual 70, 3) := by decide +kernel
theorem dL_word_7 : decode cL_word 7 = .ok (.if_icmp .ge 19, 3) := by decide +kernel
theorem dL_word_10 : decode cL_word 10 = .ok (.aload_n 0, 1) := by decide +kernel
theorem dL_word_11 : decode cL_word 11 = .ok (.aload_n 1, 1) := by decide +kernel
theorem dL_word_12 : decode cL_word 12 = .ok (.aload_n 2, 1) := by decide +kernel
theorem dL_word_13 : decode cL_word 13 = .ok (.iload_n 3, 1) := by decide +kernel
theorem dL_word_14 : decode cL_word 14 = .ok (.invokevirtual 76, 3) := by decide +kernel
theorem dL_word_17 : decode cL_word 17 = .ok (.invokestatic 14, 3) := by decide +kernel
theorem dL_word_20 : decode cL_word 20 = .ok (.iinc 3 1, 3) := by decide +kernel
theorem dL_word_23 : decode cL_word 23 = .ok (.goto (-21), 3) := by decide +kernel
theorem dL_word_26 : decode cL_word 26 = .ok (.return_, 1) := by decide +kernel
theorem dL_with_0 : decode cL_with 0 = .ok (.aload_n 0, 1) := by decide +kernel
theorem dL_with_1 : decode cL_with 1 = .ok (.aload_n 1, 1) := by decide +kernel
theorem dL_with_2 : decode cL_with 2 = .ok (.aload_n 2, 1) := by decide +kernel
theorem dL_with_3 : decode cL_with 3 = .ok (.invokestatic 80, 3) := by decide +kernel
theorem dL_with_6 : decode cL_with 6 = .ok (.aload_n 0, 1) := by decide +kernel
theorem dL_with_7 : decode cL_with 7 = .ok (.aload_n 1, 1) := by decide +kernel
theorem dL_with_8 : decode cL_with 8 = .ok (.iload_n 3, 1) := by decide +kernel
theorem dL_with_9 : decode cL_with 9 = .ok (.invokestatic 84, 3) := by decide +kernel
theorem dL_with_12 : decode cL_with 12 = .ok (.return_, 1) := by decide +kernel
theorem dL_name_0 : decode cL_name 0 = .ok (.iconst 0, 1) := by decide +kernel
theorem dL_name_1 : decode cL_name 1 = .ok (.istore 4, 2) := by decide +kernel
theorem dL_name_3 : decode cL_name 3 = .ok (.iload 4, 2) := by decide +kernel
theorem dL_name_5 : decode cL_name 5 = .ok (.aload_n 2, 1) := by decide +kernel
theorem dL_name_6 : decode cL_name 6 = .ok (.getfield 42, 3) := by decide +kernel
theorem dL_name_9 : decode cL_name 9 = .ok (.iload_n 3, 1) := by decide +kernel
theorem dL_name_10 : decode cL_name 10 = .ok (.iaload, 1) := by decide +kernel
theorem dL_name_11 : decode cL_name 11 = .ok (.if_icmp .ge 21, 3) := by decide +kernel
theorem dL_name_14 : decode cL_name 14 = .ok (.aload_n 0, 1) := by decide +kernel
theorem dL_name_15 : decode cL_name 15 = .ok (.aload_n 1, 1) := by decide +kernel
theorem dL_name_16 : decode cL_name 16 = .ok (.aload_n 2, 1) := by decide +kernel
theorem dL_name_17 : decode cL_name 17 = .ok (.iload_n 3, 1) := by decide +kernel
theorem dL_name_18 : decode cL_name 18 = .ok (.iload 4, 2) := by decide +kernel
theorem dL_name_20 : decode cL_name 20 = .ok (.invokevirtual 87, 3) := by decide +kernel
theorem dL_name_23 : decode cL_name 23 = .ok (.invokestatic 14, 3) := by decide +kernel
theorem dL_name_26 : decode cL_name 26 = .ok (.iinc 4 1, 3) := by decide +kernel
theorem dL_name_29 : decode cL_name 29 = .ok (.goto (-26), 3) := by decide +kernel
theorem dL_name_32 : decode cL_name 32 = .ok (.return_, 1) := by decide +kernel
theorem dL_tell_0 : decode cL_tell 0 = .ok (.iconst 0, 1) := by decide +kernel
theorem dL_tell_1 : decode cL_tell 1 = .ok (.istore_n 3, 1) := by decide +kernel
theorem dL_tell_2 : decode cL_tell 2 = .ok (.iload_n 3, 1) := by decide +kernel
theorem dL_tell_3 : decode cL_tell 3 = .ok (.aload_n 2, 1) := by decide +kernel
theorem dL_tell_4 : decode cL_tell 4 = .ok (.getfield 31, 3) := by decide +kernel
theorem dL_tell_7 : decode cL_tell 7 = .ok (.if_icmp .ge 43, 3) := by decide +kernel
theorem dL_tell_10 : decode cL_tell 10 = .ok (.aload_n 0, 1) := by decide +kernel
theorem dL_tell_11 : decode cL_tell 11 = .ok (.aload_n 1, 1) := by decide +kernel
theorem dL_tell_12 : decode cL_tell 12 = .ok (.ldc 91, 2) := by decide +kernel
theorem dL_tell_14 : decode cL_tell 14 = .ok (.invokestatic 80, 3) := by decide +kernel
theorem dL_tell_17 : decode cL_tell 17 = .ok (.aload_n 0, 1) := by decide +kernel
theorem dL_tell_18 : decode cL_tell 18 = .ok (.aload_n 1, 1) := by decide +kernel
theorem dL_tell_19 : decode cL_tell 19 = .ok (.aload_n 2, 1) := by decide +kernel
theorem dL_tell_20 : decode cL_tell 20 = .ok (.iload_n 3, 1) := by decide +kernel
theorem dL_tell_21 : decode cL_tell 21 = .ok (.invokestatic 93, 3) := by decide +kernel
theorem dL_tell_24 : decode cL_tell 24 = .ok (.aload_n 0, 1) := by decide +kernel
theorem dL_tell_25 : decode cL_tell 25 = .ok (.aload_n 1, 1) := by decide +kernel
theorem dL_tell_26 : decode cL_tell 26 = .ok (.ldc 96, 2) := by decide +kernel
theorem dL_tell_28 : decode cL_tell 28 = .ok (.aload_n 2, 1) := by decide +kernel
theorem dL_tell_29 : decode cL_tell 29 = .ok (.getfield 39, 3) := by decide +kernel
theorem dL_tell_32 : decode cL_tell 32 = .ok (.iload_n 3, 1) := by decide +kernel
theorem dL_tell_33 : decode cL_tell 33 = .ok (.iaload, 1) := by decide +kernel
theorem dL_tell_34 : decode cL_tell 34 = .ok (.invokestatic 98, 3) := by decide +kernel
theorem dL_tell_37 : decode cL_tell 37 = .ok (.aload_n 0, 1) := by decide +kernel
theorem dL_tell_38 : decode cL_tell 38 = .ok (.aload_n 1, 1) := by decide +kernel
theorem dL_tell_39 : decode cL_tell 39 = .ok (.bipush 59, 2) := by decide +kernel
theorem dL_tell_41 : decode cL_tell 41 = .ok (.invokestatic 14, 3) := by decide +kernel
theorem dL_tell_44 : decode cL_tell 44 = .ok (.iinc 3 1, 3) := by decide +kernel
theorem dL_tell_47 : decode cL_tell 47 = .ok (.goto (-45), 3) := by decide +kernel
theorem dL_tell_50 : decode cL_tell 50 = .ok (.iconst 0, 1) := by decide +kernel
theorem dL_tell_51 : decode cL_tell 51 = .ok (.istore_n 3, 1) := by decide +kernel
theorem dL_tell_52 : decode cL_tell 52 = .ok (.iload_n 3, 1) := by decide +kernel
theorem dL_tell_53 : decode cL_tell 53 = .ok (.aload_n 2, 1) := by decide +kernel
theorem dL_tell_54 : decode cL_tell 54 = .ok (.getfield 53, 3) := by decide +kernel
theorem dL_tell_57 : decode cL_tell 57 = .ok (.if_icmp .ge 120, 3) := by decide +kernel
theorem dL_tell_60 : decode cL_tell 60 = .ok (.aload_n 0, 1) := by decide +kernel
theorem dL_tell_61 : decode cL_tell 61 = .ok (.aload_n 1, 1) := by decide +kernel
theorem dL_tell_62 : decode cL_tell 62 = .ok (.ldc 102, 2) := by decide +kernel
theorem dL_tell_64 : decode cL_tell 64 = .ok (.invokestatic 80, 3) := by decide +kernel
theorem dL_tell_67 : decode cL_tell 67 = .ok (.aload_n 0, 1) := by decide +kernel
theorem dL_tell_68 : decode cL_tell 68 = .ok (.aload_n 1, 1) := by decide +kernel
theorem dL_tell_69 : decode cL_tell 69 = .ok (.aload_n 2, 1) := by decide +kernel
theorem dL_tell_70 : decode cL_tell 70 = .ok (.aload_n 2, 1) := by decide +kernel
theorem dL_tell_71 : decode cL_tell 71 = .ok (.getfield 49, 3) := by decide +kernel
theorem dL_tell_74 : decode cL_tell 74 = .ok (.iload_n 3, 1) := by decide +kernel
theorem dL_tell_75 : decode cL_tell 75 = .ok (.aaload, 1) := by decide +kernel
theorem dL_tell_76 : decode cL_tell 76 = .ok (.iconst 0, 1) := by decide +kernel
theorem dL_tell_77 : decode cL_tell 77 = .ok (.iaload, 1) := by decide +kernel
theorem dL_tell_78 : decode cL_tell 78 = .ok (.invokestatic 93, 3) := by decide +kernel
theorem dL_tell_81 : decode cL_tell 81 = .ok (.aload_n 0, 1) := by decide +kernel
theorem dL_tell_82 : decode cL_tell 82 = .ok (.aload_n 1, 1) := by decide +kernel
theorem dL_tell_83 : decode cL_tell 83 = .ok (.bipush 32, 2) := by decide +kernel
theorem dL_tell_85 : decode cL_tell 85 = .ok (.invokestatic 14, 3) := by decide +kernel
theorem dL_tell_88 : decode cL_tell 88 = .ok (.aload_n 0, 1) := by decide +kernel
theorem dL_tell_89 : decode cL_tell 89 = .ok (.aload_n 1, 1) := by decide +kernel
theorem dL_tell_90 : decode cL_tell 90 = .ok (.aload_n 2, 1) := by decide +kernel
theorem dL_tell_91 : decode cL_tell 91 = .ok (.aload_n 2, 1) := by decide +kernel
theorem dL_tell_92 : decode cL_tell 92 = .ok (.getfield 49, 3) := by decide +kernel
theorem dL_tell_95 : decode cL_tell 95 = .ok (.iload_n 3, 1) := by decide +kernel
theorem dL_tell_96 : decode cL_tell 96 = .ok (.aaload, 1) := by decide +kernel
theorem dL_tell_97 : decode cL_tell 97 = .ok (.iconst 1, 1) := by decide +kernel
theorem dL_tell_98 : decode cL_tell 98 = .ok (.iaload, 1) := by decide +kernel
theorem dL_tell_99 : decode cL_tell 99 = .ok (.invokestatic 93, 3) := by decide +kernel
theorem dL_tell_102 : decode cL_tell 102 = .ok (.aload_n 0, 1) := by decide +kernel
theorem dL_tell_103 : decode cL_tell 103 = .ok (.aload_n 1, 1) := by decide +kernel
theorem dL_tell_104 : decode cL_tell 104 = .ok (.ldc 96, 2) := by decide +kernel
theorem dL_tell_106 : decode cL_tell 106 = .ok (.aload_n 2, 1) := by decide +kernel
theorem dL_tell_107 : decode cL_tell 107 = .ok (.getfield 49, 3) := by decide +kernel
theorem dL_tell_110 : decode cL_tell 110 = .ok (.iload_n 3, 1) := by decide +kernel
theorem dL_tell_111 : decode cL_tell 111 = .ok (.aaload, 1) := by decide +kernel
theorem dL_tell_112 : decode cL_tell 112 = .ok (.iconst 2, 1) := by decide +kernel
theorem dL_tell_113 : decode cL_tell 113 = .ok (.iaload, 1) := by decide +kernel
theorem dL_tell_114 : decode cL_tell 114 = .ok (.invokestatic 98, 3) := by decide +kernel
theorem dL_tell_117 : decode cL_tell 117 = .ok (.iconst 0, 1) := by decide +kernel
theorem dL_tell_118 : decode cL_tell 118 = .ok (.istore 4, 2) := by decide +kernel
theorem dL_tell_120 : decode cL_tell 120 = .ok (.iload 4, 2) := by decide +kernel
theorem dL_tell_122 : decode cL_tell 122 = .ok (.aload_n 2, 1) := by decide +kernel
theorem dL_tell_123 : decode cL_tell 123 = .ok (.getfield 31, 3) := by decide +kernel
theorem dL_tell_126 : decode cL_tell 126 = .ok (.if_icmp .ge 38, 3) := by decide +kernel
theorem dL_tell_129 : decode cL_tell 129 = .ok (.aload_n 2, 1) := by decide +kernel
theorem dL_tell_130 : decode cL_tell 130 = .ok (.getfield 35, 3) := by decide +kernel
theorem dL_tell_133 : decode cL_tell 133 = .ok (.iload 4, 2) := by decide +kernel
theorem dL_tell_135 : decode cL_tell 135 = .ok (.iaload, 1) := by decide +kernel
theorem dL_tell_136 : decode cL_tell 136 = .ok (.iload_n 3, 1) := by decide +kernel
theorem dL_tell_137 : decode cL_tell 137 = .ok (.if_icmp .eq 6, 3) := by decide +kernel
theorem dL_tell_140 : decode cL_tell 140 = .ok (.goto 18, 3) := by decide +kernel
theorem dL_tell_143 : decode cL_tell 143 = .ok (.aload_n 0, 1) := by decide +kernel
theorem dL_tell_144 : decode cL_tell 144 = .ok (.aload_n 1, 1) := by decide +kernel
theorem dL_tell_145 : decode cL_tell 145 = .ok (.bipush 32, 2) := by decide +kernel
theorem dL_tell_147 : decode cL_tell 147 = .ok (.invokestatic 14, 3) := by decide +kernel
theorem dL_tell_150 : decode cL_tell 150 = .ok (.aload_n 0, 1) := by decide +kernel
theorem dL_tell_151 : decode cL_tell 151 = .ok (.aload_n 1, 1) := by decide +kernel
theorem dL_tell_152 : decode cL_tell 152 = .ok (.aload_n 2, 1) := by decide +kernel
theorem dL_tell_153 : decode cL_tell 153 = .ok (.iload 4, 2) := by decide +kernel
theorem dL_tell_155 : decode cL_tell 155 = .ok (.invokestatic 93, 3) := by decide +kernel
theorem dL_tell_158 : decode cL_tell 158 = .ok (.iinc 4 1, 3) := by decide +kernel
theorem dL_tell_161 : decode cL_tell 161 = .ok (.goto (-41), 3) := by decide +kernel
theorem dL_tell_164 : decode cL_tell 164 = .ok (.aload_n 0, 1) := by decide +kernel
theorem dL_tell_165 : decode cL_tell 165 = .ok (.aload_n 1, 1) := by decide +kernel
theorem dL_tell_166 : decode cL_tell 166 = .ok (.bipush 59, 2) := by decide +kernel
theorem dL_tell_168 : decode cL_tell 168 = .ok (.invokestatic 14, 3) := by decide +kernel
theorem dL_tell_171 : decode cL_tell 171 = .ok (.iinc 3 1, 3) := by decide +kernel
theorem dL_tell_174 : decode cL_tell 174 = .ok (.goto (-122), 3) := by decide +kernel
theorem dL_tell_177 : decode cL_tell 177 = .ok (.aload_n 0, 1) := by decide +kernel
theorem dL_tell_178 : decode cL_tell 178 = .ok (.aload_n 0, 1) := by decide +kernel
theorem dL_tell_179 : decode cL_tell 179 = .ok (.aload_n 1, 1) := by decide +kernel
theorem dL_tell_180 : decode cL_tell 180 = .ok (.invokestatic 104, 3) := by decide +kernel
theorem dL_tell_183 : decode cL_tell 183 = .ok (.invokevirtual 108, 3) := by decide +kernel
theorem dL_tell_186 : decode cL_tell 186 = .ok (.ireturn, 1) := by decide +kernel
theorem dL_act_0 : decode cL_act 0 = .ok (.iload_n 2, 1) := by decide +kernel
theorem dL_act_1 : decode cL_act 1 = .ok (.bipush 11, 2) := by decide +kernel
theorem dL_act_3 : decode cL_act 3 = .ok (.invokestatic 27, 3) := by decide +kernel
theorem dL_act_6 : decode cL_act 6 = .ok (.istore_n 3, 1) := by decide +kernel
theorem dL_act_7 : decode cL_act 7 = .ok (.iload_n 2, 1) := by decide +kernel
theorem dL_act_8 : decode cL_act 8 = .ok (.iconst 4, 1) := by decide +kernel
theorem dL_act_9 : decode cL_act 9 = .ok (.ishr, 1) := by decide +kernel
theorem dL_act_10 : decode cL_act 10 = .ok (.istore 4, 2) := by decide +kernel
theorem dL_act_12 : decode cL_act 12 = .ok (.iload 4, 2) := by decide +kernel
theorem dL_act_14 : decode cL_act 14 = .ok (.aload_n 1, 1) := by decide +kernel
theorem dL_act_15 : decode cL_act 15 = .ok (.getfield 31, 3) := by decide +kernel
theorem dL_act_18 : decode cL_act 18 = .ok (.invokestatic 27, 3) := by decide +kernel
theorem dL_act_21 : decode cL_act 21 = .ok (.istore 5, 2) := by decide +kernel
theorem dL_act_23 : decode cL_act 23 = .ok (.iload 4, 2) := by decide +kernel
theorem dL_act_25 : decode cL_act 25 = .ok (.iconst 3, 1) := by decide +kernel
theorem dL_act_26 : decode cL_act 26 = .ok (.ishr, 1) := by decide +kernel
theorem dL_act_27 : decode cL_act 27 = .ok (.aload_n 1, 1) := by decide +kernel
theorem dL_act_28 : decode cL_act 28 = .ok (.getfield 31, 3) := by decide +kernel
theorem dL_act_31 : decode cL_act 31 = .ok (.invokestatic 27, 3) := by decide +kernel
theorem dL_act_34 : decode cL_act 34 = .ok (.istore 6, 2) := by decide +kernel
theorem dL_act_36 : decode cL_act 36 = .ok (.iload_n 3, 1) := by decide +kernel
theorem dL_act_37 : decode cL_act 37 = .ok (.iconst 2, 1) := by decide +kernel
theorem dL_act_38 : decode cL_act 38 = .ok (.if_icmp .ge 134, 3) := by decide +kernel
theorem dL_act_41 : decode cL_act 41 = .ok (.iload 4, 2) := by decide +kernel
theorem dL_act_43 : decode cL_act 43 = .ok (.iconst 5, 1) := by decide +kernel
theorem dL_act_44 : decode cL_act 44 = .ok (.ishr, 1) := by decide +kernel
theorem dL_act_45 : decode cL_act 45 = .ok (.sipush 2101, 3) := by decide +kernel
theorem dL_act_48 : decode cL_act 48 = .ok (.invokestatic 27, 3) := by decide +kernel
theorem dL_act_51 : decode cL_act 51 = .ok (.istore 7, 2) := by decide +kernel
theorem dL_act_53 : decode cL_act 53 = .ok (.iload 5, 2) := by decide +kernel
theorem dL_act_55 : decode cL_act 55 = .ok (.iload 6, 2) := by decide +kernel
theorem dL_act_57 : decode cL_act 57 = .ok (.if_icmp .eq 14, 3) := by decide +kernel
theorem dL_act_60 : decode cL_act 60 = .ok (.aload_n 1, 1) := by decide +kernel
theorem dL_act_61 : decode cL_act 61 = .ok (.iload 5, 2) := by decide +kernel
theorem dL_act_63 : decode cL_act 63 = .ok (.iload 6, 2) := by decide +kernel
theorem dL_act_65 : decode cL_act 65 = .ok (.invokestatic 45, 3) := by decide +kernel
theorem dL_act_68 : decode cL_act 68 = .ok (.ifCond .eq 8, 3) := by decide +kernel
theorem dL_act_71 : decode cL_act 71 = .ok (.bipush (-2), 2) := by decide +kernel
theorem dL_act_73 : decode cL_act 73 = .ok (.goto 21, 3) := by decide +kernel
theorem dL_act_76 : decode cL_act 76 = .ok (.aload_n 1, 1) := by decide +kernel
theorem dL_act_77 : decode cL_act 77 = .ok (.getfield 53, 3) := by decide +kernel
theorem dL_act_80 : decode cL_act 80 = .ok (.bipush 12, 2) := by decide +kernel
theorem dL_act_82 : decode cL_act 82 = .ok (.if_icmp .ne 8, 3) := by decide +kernel
theorem dL_act_85 : decode cL_act 85 = .ok (.bipush (-3), 2) := by decide +kernel
theorem dL_act_87 : decode cL_act 87 = .ok (.goto 7, 3) := by decide +kernel
theorem dL_act_90 : decode cL_act 90 = .ok (.aload_n 1, 1) := by decide +kernel
theorem dL_act_91 : decode cL_act 91 = .ok (.getfield 53, 3) := by decide +kernel
theorem dL_act_94 : decode cL_act 94 = .ok (.istore 8, 2) := by decide +kernel
theorem dL_act_96 : decode cL_act 96 = .ok (.iload 8, 2) := by decide +kernel
theorem dL_act_98 : decode cL_act 98 = .ok (.ifCond .lt 44, 3) := by decide +kernel
theorem dL_act_101 : decode cL_act 101 = .ok (.aload_n 1, 1) := by decide +kernel
theorem dL_act_102 : decode cL_act 102 = .ok (.getfield 49, 3) := by decide +kernel
theorem dL_act_105 : decode cL_act 105 = .ok (.aload_n 1, 1) := by decide +kernel
theorem dL_act_106 : decode cL_act 106 = .ok (.getfield 53, 3) := by decide +kernel
theorem dL_act_109 : decode cL_act 109 = .ok (.iconst 3, 1) := by decide +kernel
theorem dL_act_110 : decode cL_act 110 = .ok (.newarray .int, 2) := by decide +kernel
theorem dL_act_112 : decode cL_act 112 = .ok (.dup, 1) := by decide +kernel
theorem dL_act_113 : decode cL_act 113 = .ok (.iconst 0, 1) := by decide +kernel
theorem dL_act_114 : decode cL_act 114 = .ok (.iload 5, 2) := by decide +kernel
theorem dL_act_116 : decode cL_act 116 = .ok (.iastore, 1) := by decide +kernel
theorem dL_act_117 : decode cL_act 117 = .ok (.dup, 1) := by decide +kernel
theorem dL_act_118 : decode cL_act 118 = .ok (.iconst 1, 1) := by decide +kernel
theorem dL_act_119 : decode cL_act 119 = .ok (.iload 6, 2) := by decide +kernel
theorem dL_act_121 : decode cL_act 121 = .ok (.iastore, 1) := by decide +kernel
theorem dL_act_122 : decode cL_act 122 = .ok (.dup, 1) := by decide +kernel
theorem dL_act_123 : decode cL_act 123 = .ok (.iconst 2, 1) := by decide +kernel
theorem dL_act_124 : decode cL_act 124 = .ok (.iload 7, 2) := by decide +kernel
theorem dL_act_126 : decode cL_act 126 = .ok (.iastore, 1) := by decide +kernel
theorem dL_act_127 : decode cL_act 127 = .ok (.aastore, 1) := by decide +kernel
theorem dL_act_128 : decode cL_act 128 = .ok (.aload_n 1, 1) := by decide +kernel
theorem dL_act_129 : decode cL_act 129 = .ok (.dup, 1) := by decide +kernel
theorem dL_act_130 : decode cL_act 130 = .ok (.getfield 53, 3) := by decide +kernel
theorem dL_act_133 : decode cL_act 133 = .ok (.iconst 1, 1) := by decide +kernel
theorem dL_act_134 : decode cL_act 134 = .ok (.iadd, 1) := by decide +kernel
theorem dL_act_135 : decode cL_act 135 = .ok (.putfield 53, 3) := by decide +kernel
theorem dL_act_138 : decode cL_act 138 = .ok (.aload_n 1, 1) := by decide +kernel
theorem dL_act_139 : decode cL_act 139 = .ok (.invokevirtual 59, 3) := by decide +kernel
theorem dL_act_142 : decode cL_act 142 = .ok (.aload_n 0, 1) := by decide +kernel
theorem dL_act_143 : decode cL_act 143 = .ok (.iload 5, 2) := by decide +kernel
theorem dL_act_145 : decode cL_act 145 = .ok (.iload 6, 2) := by decide +kernel
theorem dL_act_147 : decode cL_act 147 = .ok (.iload 7, 2) := by decide +kernel
theorem dL_act_149 : decode cL_act 149 = .ok (.invokevirtual 164, 3) := by decide +kernel
theorem dL_act_152 : decode cL_act 152 = .ok (.iload 8, 2) := by decide +kernel
theorem dL_act_154 : decode cL_act 154 = .ok (.if_icmp .eq 7, 3) := by decide +kernel
theorem dL_act_157 : decode cL_act 157 = .ok (.iconst (-1), 1) := by decide +kernel
theorem dL_act_158 : decode cL_act 158 = .ok (.goto 13, 3) := by decide +kernel
theorem dL_act_161 : decode cL_act 161 = .ok (.iload 8, 2) := by decide +kernel
theorem dL_act_163 : decode cL_act 163 = .ok (.ifCond .ge 7, 3) := by decide +kernel
theorem dL_act_166 : decode cL_act 166 = .ok (.iconst 0, 1) := by decide +kernel
theorem dL_act_167 : decode cL_act 167 = .ok (.goto 4, 3) := by decide +kernel
theorem dL_act_170 : decode cL_act 170 = .ok (.iconst 1, 1) := by decide +kernel
theorem dL_act_171 : decode cL_act 171 = .ok (.ireturn, 1) := by decide +kernel
theorem dL_act_172 : decode cL_act 172 = .ok (.iload_n 3, 1) := by decide +kernel
theorem dL_act_173 : decode cL_act 173 = .ok (.iconst 4, 1) := by decide +kernel
theorem dL_act_174 : decode cL_act 174 = .ok (.if_icmp .ge 113, 3) := by decide +kernel
theorem dL_act_177 : decode cL_act 177 = .ok (.aload_n 1, 1) := by decide +kernel
theorem dL_act_178 : decode cL_act 178 = .ok (.getfield 53, 3) := by decide +kernel
theorem dL_act_181 : decode cL_act 181 = .ok (.ifCond .ne 5, 3) := by decide +kernel
theorem dL_act_184 : decode cL_act 184 = .ok (.iconst 0, 1) := by decide +kernel
theorem dL_act_185 : decode cL_act 185 = .ok (.ireturn, 1) := by decide +kernel
theorem dL_act_186 : decode cL_act 186 = .ok (.iload 4, 2) := by decide +kernel
theorem dL_act_188 : decode cL_act 188 = .ok (.iconst 4, 1) := by decide +kernel
theorem dL_act_189 : decode cL_act 189 = .ok (.ishr, 1) := by decide +kernel
theorem dL_act_190 : decode cL_act 190 = .ok (.aload_n 1, 1) := by decide +kernel
theorem dL_act_191 : decode cL_act 191 = .ok (.getfield 53, 3) := by decide +kernel
theorem dL_act_194 : decode cL_act 194 = .ok (.invokestatic 27, 3) := by decide +kernel
theorem dL_act_197 : decode cL_act 197 = .ok (.istore 7, 2) := by decide +kernel
theorem dL_act_199 : decode cL_act 199 = .ok (.aload_n 1, 1) := by decide +kernel
theorem dL_act_200 : decode cL_act 200 = .ok (.getfield 35, 3) := by decide +kernel
theorem dL_act_203 : decode cL_act 203 = .ok (.iload 5, 2) := by decide +kernel
theorem dL_act_205 : decode cL_act 205 = .ok (.iaload, 1) := by decide +kernel
theorem dL_act_206 : decode cL_act 206 = .ok (.ifCond .lt 8, 3) := by decide +kernel
theorem dL_act_209 : decode cL_act 209 = .ok (.bipush (-2), 2) := by decide +kernel
theorem dL_act_211 : decode cL_act 211 = .ok (.goto 20, 3) := by decide +kernel
theorem dL_act_214 : decode cL_act 214 = .ok (.aload_n 1, 1) := by decide +kernel
theorem dL_act_215 : decode cL_act 215 = .ok (.iload 7, 2) := by decide +kernel
theorem dL_act_217 : decode cL_act 217 = .ok (.iload 5, 2) := by decide +kernel
theorem dL_act_219 : decode cL_act 219 = .ok (.invokestatic 56, 3) := by decide +kernel
theorem dL_act_222 : decode cL_act 222 = .ok (.ifCond .ne 8, 3) := by decide +kernel
theorem dL_act_225 : decode cL_act 225 = .ok (.bipush (-3), 2) := by decide +kernel
theorem dL_act_227 : decode cL_act 227 = .ok (.goto 4, 3) := by decide +kernel
theorem dL_act_230 : decode cL_act 230 = .ok (.iconst 0, 1) := by decide +kernel
theorem dL_act_231 : decode cL_act 231 = .ok (.istore 8, 2) := by decide +kernel
theorem dL_act_233 : decode cL_act 233 = .ok (.iload 8, 2) := by decide +kernel
theorem dL_act_235 : decode cL_act 235 = .ok (.ifCond .ne 24, 3) := by decide +kernel
theorem dL_act_238 : decode cL_act 238 = .ok (.aload_n 1, 1) := by decide +kernel
theorem dL_act_239 : decode cL_act 239 = .ok (.getfield 35, 3) := by decide +kernel
theorem dL_act_242 : decode cL_act 242 = .ok (.iload 5, 2) := by decide +kernel
theorem dL_act_244 : decode cL_act 244 = .ok (.iload 7, 2) := by decide +kernel
theorem dL_act_246 : decode cL_act 246 = .ok (.iastore, 1) := by decide +kernel
theorem dL_act_247 : decode cL_act 247 = .ok (.aload_n 1, 1) := by decide +kernel
theorem dL_act_248 : decode cL_act 248 = .ok (.invokevirtual 59, 3) := by decide +kernel
theorem dL_act_251 : decode cL_act 251 = .ok (.aload_n 1, 1) := by decide +kernel
theorem dL_act_252 : decode cL_act 252 = .ok (.iload 5, 2) := by decide +kernel
theorem dL_act_254 : decode cL_act 254 = .ok (.invokevirtual 126, 3) := by decide +kernel
theorem dL_act_257 : decode cL_act 257 = .ok (.istore 8, 2) := by decide +kernel
theorem dL_act_259 : decode cL_act 259 = .ok (.aload_n 0, 1) := by decide +kernel
theorem dL_act_260 : decode cL_act 260 = .ok (.iload 7, 2) := by decide +kernel
theorem dL_act_262 : decode cL_act 262 = .ok (.iload 5, 2) := by decide +kernel
theorem dL_act_264 : decode cL_act 264 = .ok (.invokevirtual 167, 3) := by decide +kernel
theorem dL_act_267 : decode cL_act 267 = .ok (.iload 8, 2) := by decide +kernel
theorem dL_act_269 : decode cL_act 269 = .ok (.if_icmp .eq 7, 3) := by decide +kernel
theorem dL_act_272 : decode cL_act 272 = .ok (.iconst (-1), 1) := by decide +kernel
theorem dL_act_273 : decode cL_act 273 = .ok (.goto 13, 3) := by decide +kernel
theorem dL_act_276 : decode cL_act 276 = .ok (.iload 8, 2) := by decide +kernel
theorem dL_act_278 : decode cL_act 278 = .ok (.ifCond .ge 7, 3) := by decide +kernel
theorem dL_act_281 : decode cL_act 281 = .ok (.iconst 0, 1) := by decide +kernel
theorem dL_act_282 : decode cL_act 282 = .ok (.goto 4, 3) := by decide +kernel
theorem dL_act_285 : decode cL_act 285 = .ok (.iconst 1, 1) := by decide +kernel
theorem dL_act_286 : decode cL_act 286 = .ok (.ireturn, 1) := by decide +kernel
theorem dL_act_287 : decode cL_act 287 = .ok (.iload_n 3, 1) := by decide +kernel
theorem dL_act_288 : decode cL_act 288 = .ok (.iconst 4, 1) := by decide +kernel
theorem dL_act_289 : decode cL_act 289 = .ok (.if_icmp .ne 70, 3) := by decide +kernel
theorem dL_act_292 : decode cL_act 292 = .ok (.aload_n 1, 1) := by decide +kernel
theorem dL_act_293 : decode cL_act 293 = .ok (.getfield 35, 3) := by decide +kernel
theorem dL_act_296 : decode cL_act 296 = .ok (.iload 5, 2) := by decide +kernel
theorem dL_act_298 : decode cL_act 298 = .ok (.iaload, 1) := by decide +kernel
theorem dL_act_299 : decode cL_act 299 = .ok (.ifCond .ge 8, 3) := by decide +kernel
theorem dL_act_302 : decode cL_act 302 = .ok (.bipush (-2), 2) := by decide +kernel
theorem dL_act_304 : decode cL_act 304 = .ok (.goto 10, 3) := by decide +kernel
theorem dL_act_307 : decode cL_act 307 = .ok (.aload_n 1, 1) := by decide +kernel
theorem dL_act_308 : decode cL_act 308 = .ok (.getfield 35, 3) := by decide +kernel
theorem dL_act_311 : decode cL_act 311 = .ok (.iload 5, 2) := by decide +kernel
theorem dL_act_313 : decode cL_act 313 = .ok (.iaload, 1) := by decide +kernel
theorem dL_act_314 : decode cL_act 314 = .ok (.istore 7, 2) := by decide +kernel
theorem dL_act_316 : decode cL_act 316 = .ok (.iload 7, 2) := by decide +kernel
theorem dL_act_318 : decode cL_act 318 = .ok (.ifCond .lt 15, 3) := by decide +kernel
theorem dL_act_321 : decode cL_act 321 = .ok (.aload_n 1, 1) := by decide +kernel
theorem dL_act_322 : decode cL_act 322 = .ok (.getfield 35, 3) := by decide +kernel
theorem dL_act_325 : decode cL_act 325 = .ok (.iload 5, 2) := by decide +kernel
theorem dL_act_327 : decode cL_act 327 = .ok (.iconst (-1), 1) := by decide +kernel
theorem dL_act_328 : decode cL_act 328 = .ok (.iastore, 1) := by decide +kernel
theorem dL_act_329 : decode cL_act 329 = .ok (.aload_n 1, 1) := by decide +kernel
theorem dL_act_330 : decode cL_act 330 = .ok (.invokevirtual 59, 3) := by decide +kernel
theorem dL_act_333 : decode cL_act 333 = .ok (.aload_n 0, 1) := by decide +kernel
theorem dL_act_334 : decode cL_act 334 = .ok (.iload 5, 2) := by decide +kernel
theorem dL_act_336 : decode cL_act 336 = .ok (.invokevirtual 170, 3) := by decide +kernel
theorem dL_act_339 : decode cL_act 339 = .ok (.iload 7, 2) := by decide +kernel
theorem dL_act_341 : decode cL_act 341 = .ok (.if_icmp .eq 7, 3) := by decide +kernel
theorem dL_act_344 : decode cL_act 344 = .ok (.iconst (-1), 1) := by decide +kernel
theorem dL_act_345 : decode cL_act 345 = .ok (.goto 13, 3) := by decide +kernel
theorem dL_act_348 : decode cL_act 348 = .ok (.iload 7, 2) := by decide +kernel
theorem dL_act_350 : decode cL_act 350 = .ok (.ifCond .ge 7, 3) := by decide +kernel
theorem dL_act_353 : decode cL_act 353 = .ok (.iconst 0, 1) := by decide +kernel
theorem dL_act_354 : decode cL_act 354 = .ok (.goto 4, 3) := by decide +kernel
theorem dL_act_357 : decode cL_act 357 = .ok (.iconst 1, 1) := by decide +kernel
theorem dL_act_358 : decode cL_act 358 = .ok (.ireturn, 1) := by decide +kernel
theorem dL_act_359 : decode cL_act 359 = .ok (.iload_n 3, 1) := by decide +kernel
theorem dL_act_360 : decode cL_act 360 = .ok (.bipush 8, 2) := by decide +kernel
theorem dL_act_362 : decode cL_act 362 = .ok (.if_icmp .ge 105, 3) := by decide +kernel
theorem dL_act_365 : decode cL_act 365 = .ok (.iload 4, 2) := by decide +kernel
theorem dL_act_367 : decode cL_act 367 = .ok (.iconst 2, 1) := by decide +kernel
theorem dL_act_368 : decode cL_act 368 = .ok (.ishr, 1) := by decide +kernel
theorem dL_act_369 : decode cL_act 369 = .ok (.aload_n 1, 1) := by decide +kernel
theorem dL_act_370 : decode cL_act 370 = .ok (.getfield 114, 3) := by decide +kernel
theorem dL_act_373 : decode cL_act 373 = .ok (.invokestatic 27, 3) := by decide +kernel
theorem dL_act_376 : decode cL_act 376 = .ok (.istore 7, 2) := by decide +kernel
theorem dL_act_378 : decode cL_act 378 = .ok (.iload 4, 2) := by decide +kernel
theorem dL_act_380 : decode cL_act 380 = .ok (.iconst 4, 1) := by decide +kernel
theorem dL_act_381 : decode cL_act 381 = .ok (.ishr, 1) := by decide +kernel
theorem dL_act_382 : decode cL_act 382 = .ok (.aload_n 1, 1) := by decide +kernel
theorem dL_act_383 : decode cL_act 383 = .ok (.getfield 154, 3) := by decide +kernel
theorem dL_act_386 : decode cL_act 386 = .ok (.iload 7, 2) := by decide +kernel
theorem dL_act_388 : decode cL_act 388 = .ok (.aaload, 1) := by decide +kernel
theorem dL_act_389 : decode cL_act 389 = .ok (.arraylength, 1) := by decide +kernel
theorem dL_act_390 : decode cL_act 390 = .ok (.invokestatic 27, 3) := by decide +kernel
theorem dL_act_393 : decode cL_act 393 = .ok (.istore 8, 2) := by decide +kernel
theorem dL_act_395 : decode cL_act 395 = .ok (.iload 4, 2) := by decide +kernel
theorem dL_act_397 : decode cL_act 397 = .ok (.bipush 6, 2) := by decide +kernel
theorem dL_act_399 : decode cL_act 399 = .ok (.ishr, 1) := by decide +kernel
theorem dL_act_400 : decode cL_act 400 = .ok (.aload_n 1, 1) := by decide +kernel
theorem dL_act_401 : decode cL_act 401 = .ok (.getfield 154, 3) := by decide +kernel
theorem dL_act_404 : decode cL_act 404 = .ok (.iload 7, 2) := by decide +kernel
theorem dL_act_406 : decode cL_act 406 = .ok (.aaload, 1) := by decide +kernel
theorem dL_act_407 : decode cL_act 407 = .ok (.arraylength, 1) := by decide +kernel
theorem dL_act_408 : decode cL_act 408 = .ok (.invokestatic 27, 3) := by decide +kernel
theorem dL_act_411 : decode cL_act 411 = .ok (.istore 9, 2) := by decide +kernel
theorem dL_act_413 : decode cL_act 413 = .ok (.aload_n 0, 1) := by decide +kernel
theorem dL_act_414 : decode cL_act 414 = .ok (.iload 7, 2) := by decide +kernel
theorem dL_act_416 : decode cL_act 416 = .ok (.iload 8, 2) := by decide +kernel
theorem dL_act_418 : decode cL_act 418 = .ok (.iload 9, 2) := by decide +kernel
theorem dL_act_420 : decode cL_act 420 = .ok (.invokevirtual 173, 3) := by decide +kernel
theorem dL_act_423 : decode cL_act 423 = .ok (.istore 10, 2) := by decide +kernel
theorem dL_act_425 : decode cL_act 425 = .ok (.aload_n 1, 1) := by decide +kernel
theorem dL_act_426 : decode cL_act 426 = .ok (.iload 7, 2) := by decide +kernel
theorem dL_act_428 : decode cL_act 428 = .ok (.iload 8, 2) := by decide +kernel
theorem dL_act_430 : decode cL_act 430 = .ok (.iload 9, 2) := by decide +kernel
theorem dL_act_432 : decode cL_act 432 = .ok (.invokevirtual 176, 3) := by decide +kernel
theorem dL_act_435 : decode cL_act 435 = .ok (.aload_n 0, 1) := by decide +kernel
theorem dL_act_436 : decode cL_act 436 = .ok (.iload 7, 2) := by decide +kernel
theorem dL_act_438 : decode cL_act 438 = .ok (.iload 8, 2) := by decide +kernel
theorem dL_act_440 : decode cL_act 440 = .ok (.iload 9, 2) := by decide +kernel
theorem dL_act_442 : decode cL_act 442 = .ok (.invokevirtual 180, 3) := by decide +kernel
theorem dL_act_445 : decode cL_act 445 = .ok (.aload_n 1, 1) := by decide +kernel
theorem dL_act_446 : decode cL_act 446 = .ok (.invokevirtual 120, 3) := by decide +kernel
theorem dL_act_449 : decode cL_act 449 = .ok (.if_icmp .ne 16, 3) := by decide +kernel
theorem dL_act_452 : decode cL_act 452 = .ok (.iload 10, 2) := by decide +kernel
theorem dL_act_454 : decode cL_act 454 = .ok (.aload_n 1, 1) := by decide +kernel
theorem dL_act_455 : decode cL_act 455 = .ok (.invokevirtual 120, 3) := by decide +kernel
theorem dL_act_458 : decode cL_act 458 = .ok (.if_icmp .ne 7, 3) := by decide +kernel
theorem dL_act_461 : decode cL_act 461 = .ok (.iconst 1, 1) := by decide +kernel
theorem dL_act_462 : decode cL_act 462 = .ok (.goto 4, 3) := by decide +kernel
theorem dL_act_465 : decode cL_act 465 = .ok (.iconst (-1), 1) := by decide +kernel
theorem dL_act_466 : decode cL_act 466 = .ok (.ireturn, 1) := by decide +kernel
theorem dL_act_467 : decode cL_act 467 = .ok (.iload_n 3, 1) := by decide +kernel
theorem dL_act_468 : decode cL_act 468 = .ok (.bipush 8, 2) := by decide +kernel
theorem dL_act_470 : decode cL_act 470 = .ok (.if_icmp .ne 32, 3) := by decide +kernel
theorem dL_act_473 : decode cL_act 473 = .ok (.iload 4, 2) := by decide +kernel
theorem dL_act_475 : decode cL_act 475 = .ok (.iconst 3, 1) := by decide +kernel
theorem dL_act_476 : decode cL_act 476 = .ok (.invokestatic 27, 3) := by decide +kernel
theorem dL_act_479 : decode cL_act 479 = .ok (.istore 7, 2) := by decide +kernel
theorem dL_act_481 : decode cL_act 481 = .ok (.aload_n 0, 1) := by decide +kernel
theorem dL_act_482 : decode cL_act 482 = .ok (.iload 7, 2) := by decide +kernel
theorem dL_act_484 : decode cL_act 484 = .ok (.invokevirtual 183, 3) := by decide +kernel
theorem dL_act_487 : decode cL_act 487 = .ok (.aload_n 1, 1) := by decide +kernel
theorem dL_act_488 : decode cL_act 488 = .ok (.iload 7, 2) := by decide +kernel
theorem dL_act_490 : decode cL_act 490 = .ok (.invokevirtual 186, 3) := by decide +kernel
theorem dL_act_493 : decode cL_act 493 = .ok (.if_icmp .ne 7, 3) := by decide +kernel
theorem dL_act_496 : decode cL_act 496 = .ok (.iconst 1, 1) := by decide +kernel
theorem dL_act_497 : decode cL_act 497 = .ok (.goto 4, 3) := by decide +kernel
theorem dL_act_500 : decode cL_act 500 = .ok (.iconst (-1), 1) := by decide +kernel
theorem dL_act_501 : decode cL_act 501 = .ok (.ireturn, 1) := by decide +kernel
theorem dL_act_502 : decode cL_act 502 = .ok (.iload_n 3, 1) := by decide +kernel
theorem dL_act_503 : decode cL_act 503 = .ok (.bipush 9, 2) := by decide +kernel
theorem dL_act_505 : decode cL_act 505 = .ok (.if_icmp .ne 24, 3) := by decide +kernel
theorem dL_act_508 : decode cL_act 508 = .ok (.aload_n 1, 1) := by decide +kernel
theorem dL_act_509 : decode cL_act 509 = .ok (.invokevirtual 187, 3) := by decide +kernel
theorem dL_act_512 : decode cL_act 512 = .ok (.aload_n 0, 1) := by decide +kernel
theorem dL_act_513 : decode cL_act 513 = .ok (.invokevirtual 190, 3) := by decide +kernel
theorem dL_act_516 : decode cL_act 516 = .ok (.aload_n 1, 1) := by decide +kernel
theorem dL_act_517 : decode cL_act 517 = .ok (.invokevirtual 120, 3) := by decide +kernel
theorem dL_act_520 : decode cL_act 520 = .ok (.if_icmp .ne 7, 3) := by decide +kernel
theorem dL_act_523 : decode cL_act 523 = .ok (.iconst 1, 1) := by decide +kernel
theorem dL_act_524 : decode cL_act 524 = .ok (.goto 4, 3) := by decide +kernel
theorem dL_act_527 : decode cL_act 527 = .ok (.iconst (-1), 1) := by decide +kernel
theorem dL_act_528 : decode cL_act 528 = .ok (.ireturn, 1) := by decide +kernel
theorem dL_act_529 : decode cL_act 529 = .ok (.aload_n 1, 1) := by decide +kernel
theorem dL_act_530 : decode cL_act 530 = .ok (.invokevirtual 59, 3) := by decide +kernel
theorem dL_act_533 : decode cL_act 533 = .ok (.aload_n 0, 1) := by decide +kernel
theorem dL_act_534 : decode cL_act 534 = .ok (.invokevirtual 192, 3) := by decide +kernel
theorem dL_act_537 : decode cL_act 537 = .ok (.iconst 1, 1) := by decide +kernel
theorem dL_act_538 : decode cL_act 538 = .ok (.ireturn, 1) := by decide +kernel
theorem dL_all_0 : decode cL_all 0 = .ok (.aload_n 0, 1) := by decide +kernel
theorem dL_all_1 : decode cL_all 1 = .ok (.iconst 0, 1) := by decide +kernel
theorem dL_all_2 : decode cL_all 2 = .ok (.invokevirtual 111, 3) := by decide +kernel
theorem dL_all_5 : decode cL_all 5 = .ok (.i2l, 1) := by decide +kernel
theorem dL_all_6 : decode cL_all 6 = .ok (.ldc2_w 193, 3) := by decide +kernel
theorem dL_all_9 : decode cL_all 9 = .ok (.aload_n 0, 1) := by decide +kernel
theorem dL_all_10 : decode cL_all 10 = .ok (.iconst 1, 1) := by decide +kernel
theorem dL_all_11 : decode cL_all 11 = .ok (.invokevirtual 111, 3) := by decide +kernel
theorem dL_all_14 : decode cL_all 14 = .ok (.i2l, 1) := by decide +kernel
theorem dL_all_15 : decode cL_all 15 = .ok (.lmul, 1) := by decide +kernel
theorem dL_all_16 : decode cL_all 16 = .ok (.ladd, 1) := by decide +kernel
theorem dL_all_17 : decode cL_all 17 = .ok (.aload_n 0, 1) := by decide +kernel
theorem dL_all_18 : decode cL_all 18 = .ok (.invokevirtual 117, 3) := by decide +kernel
theorem dL_all_21 : decode cL_all 21 = .ok (.i2l, 1) := by decide +kernel
theorem dL_all_22 : decode cL_all 22 = .ok (.ladd, 1) := by decide +kernel
theorem dL_all_23 : decode cL_all 23 = .ok (.lstore_n 1, 1) := by decide +kernel
theorem dL_all_24 : decode cL_all 24 = .ok (.iconst 0, 1) := by decide +kernel
theorem dL_all_25 : decode cL_all 25 = .ok (.istore_n 3, 1) := by decide +kernel
theorem dL_all_26 : decode cL_all 26 = .ok (.iload_n 3, 1) := by decide +kernel
theorem dL_all_27 : decode cL_all 27 = .ok (.aload_n 0, 1) := by decide +kernel
theorem dL_all_28 : decode cL_all 28 = .ok (.iconst 0, 1) := by decide +kernel
theorem dL_all_29 : decode cL_all 29 = .ok (.invokevirtual 111, 3) := by decide +kernel
theorem dL_all_32 : decode cL_all 32 = .ok (.if_icmp .ge 42, 3) := by decide +kernel
theorem dL_all_35 : decode cL_all 35 = .ok (.ldc2_w 195, 3) := by decide +kernel
theorem dL_all_38 : decode cL_all 38 = .ok (.lload_n 1, 1) := by decide +kernel
theorem dL_all_39 : decode cL_all 39 = .ok (.lmul, 1) := by decide +kernel
theorem dL_all_40 : decode cL_all 40 = .ok (.aload_n 0, 1) := by decide +kernel
theorem dL_all_41 : decode cL_all 41 = .ok (.iload_n 3, 1) := by decide +kernel
theorem dL_all_42 : decode cL_all 42 = .ok (.invokevirtual 129, 3) := by decide +kernel
theorem dL_all_45 : decode cL_all 45 = .ok (.i2l, 1) := by decide +kernel
theorem dL_all_46 : decode cL_all 46 = .ok (.ladd, 1) := by decide +kernel
theorem dL_all_47 : decode cL_all 47 = .ok (.ldc2_w 193, 3) := by decide +kernel
theorem dL_all_50 : decode cL_all 50 = .ok (.aload_n 0, 1) := by decide +kernel
theorem dL_all_51 : decode cL_all 51 = .ok (.iload_n 3, 1) := by decide +kernel
theorem dL_all_52 : decode cL_all 52 = .ok (.iconst 1, 1) := by decide +kernel
theorem dL_all_53 : decode cL_all 53 = .ok (.invokevirtual 123, 3) := by decide +kernel
theorem dL_all_56 : decode cL_all 56 = .ok (.i2l, 1) := by decide +kernel
theorem dL_all_57 : decode cL_all 57 = .ok (.lmul, 1) := by decide +kernel
theorem dL_all_58 : decode cL_all 58 = .ok (.ladd, 1) := by decide +kernel
theorem dL_all_59 : decode cL_all 59 = .ok (.aload_n 0, 1) := by decide +kernel
theorem dL_all_60 : decode cL_all 60 = .ok (.iload_n 3, 1) := by decide +kernel
theorem dL_all_61 : decode cL_all 61 = .ok (.iconst 2, 1) := by decide +kernel
theorem dL_all_62 : decode cL_all 62 = .ok (.invokevirtual 123, 3) := by decide +kernel
theorem dL_all_65 : decode cL_all 65 = .ok (.i2l, 1) := by decide +kernel
theorem dL_all_66 : decode cL_all 66 = .ok (.ladd, 1) := by decide +kernel
theorem dL_all_67 : decode cL_all 67 = .ok (.lstore_n 1, 1) := by decide +kernel
theorem dL_all_68 : decode cL_all 68 = .ok (.iinc 3 1, 3) := by decide +kernel
theorem dL_all_71 : decode cL_all 71 = .ok (.goto (-45), 3) := by decide +kernel
theorem dL_all_74 : decode cL_all 74 = .ok (.iconst 0, 1) := by decide +kernel
theorem dL_all_75 : decode cL_all 75 = .ok (.istore_n 3, 1) := by decide +kernel
theorem dL_all_76 : decode cL_all 76 = .ok (.iload_n 3, 1) := by decide +kernel
theorem dL_all_77 : decode cL_all 77 = .ok (.aload_n 0, 1) := by decide +kernel
theorem dL_all_78 : decode cL_all 78 = .ok (.iconst 1, 1) := by decide +kernel
theorem dL_all_79 : decode cL_all 79 = .ok (.invokevirtual 111, 3) := by decide +kernel
theorem dL_all_82 : decode cL_all 82 = .ok (.if_icmp .ge 50, 3) := by decide +kernel
theorem dL_all_85 : decode cL_all 85 = .ok (.ldc2_w 195, 3) := by decide +kernel
theorem dL_all_88 : decode cL_all 88 = .ok (.lload_n 1, 1) := by decide +kernel
theorem dL_all_89 : decode cL_all 89 = .ok (.lmul, 1) := by decide +kernel
theorem dL_all_90 : decode cL_all 90 = .ok (.aload_n 0, 1) := by decide +kernel
theorem dL_all_91 : decode cL_all 91 = .ok (.iload_n 3, 1) := by decide +kernel
theorem dL_all_92 : decode cL_all 92 = .ok (.iconst 0, 1) := by decide +kernel
theorem dL_all_93 : decode cL_all 93 = .ok (.invokevirtual 134, 3) := by decide +kernel
theorem dL_all_96 : decode cL_all 96 = .ok (.i2l, 1) := by decide +kernel
theorem dL_all_97 : decode cL_all 97 = .ok (.ladd, 1) := by decide +kernel
theorem dL_all_98 : decode cL_all 98 = .ok (.ldc2_w 193, 3) := by decide +kernel
theorem dL_all_101 : decode cL_all 101 = .ok (.aload_n 0, 1) := by decide +kernel
theorem dL_all_102 : decode cL_all 102 = .ok (.iload_n 3, 1) := by decide +kernel
theorem dL_all_103 : decode cL_all 103 = .ok (.iconst 1, 1) := by decide +kernel
theorem dL_all_104 : decode cL_all 104 = .ok (.invokevirtual 134, 3) := by decide +kernel
theorem dL_all_107 : decode cL_all 107 = .ok (.i2l, 1) := by decide +kernel
theorem dL_all_108 : decode cL_all 108 = .ok (.lmul, 1) := by decide +kernel
theorem dL_all_109 : decode cL_all 109 = .ok (.ladd, 1) := by decide +kernel
theorem dL_all_110 : decode cL_all 110 = .ok (.aload_n 0, 1) := by decide +kernel
theorem dL_all_111 : decode cL_all 111 = .ok (.iload_n 3, 1) := by decide +kernel
theorem dL_all_112 : decode cL_all 112 = .ok (.iconst 5, 1) := by decide +kernel
theorem dL_all_113 : decode cL_all 113 = .ok (.invokevirtual 134, 3) := by decide +kernel
theorem dL_all_116 : decode cL_all 116 = .ok (.i2l, 1) := by decide +kernel
theorem dL_all_117 : decode cL_all 117 = .ok (.ladd, 1) := by decide +kernel
theorem dL_all_118 : decode cL_all 118 = .ok (.aload_n 0, 1) := by decide +kernel
theorem dL_all_119 : decode cL_all 119 = .ok (.iload_n 3, 1) := by decide +kernel
theorem dL_all_120 : decode cL_all 120 = .ok (.invokevirtual 148, 3) := by decide +kernel
theorem dL_all_123 : decode cL_all 123 = .ok (.i2l, 1) := by decide +kernel
theorem dL_all_124 : decode cL_all 124 = .ok (.ladd, 1) := by decide +kernel
theorem dL_all_125 : decode cL_all 125 = .ok (.lstore_n 1, 1) := by decide +kernel
theorem dL_all_126 : decode cL_all 126 = .ok (.iinc 3 1, 3) := by decide +kernel
theorem dL_all_129 : decode cL_all 129 = .ok (.goto (-53), 3) := by decide +kernel
theorem dL_all_132 : decode cL_all 132 = .ok (.lload_n 1, 1) := by decide +kernel
theorem dL_all_133 : decode cL_all 133 = .ok (.lreturn, 1) := by decide +kernel
theorem dL_isSound_0 : decode cL_isSound 0 = .ok (.aload_n 0, 1) := by decide +kernel
theorem dL_isSound_1 : decode cL_isSound 1 = .ok (.iconst 0, 1) := by decide +kernel
theorem dL_isSound_2 : decode cL_isSound 2 = .ok (.invokevirtual 111, 3) := by decide +kernel
theorem dL_isSound_5 : decode cL_isSound 5 = .ok (.istore_n 1, 1) := by decide +kernel
theorem dL_isSound_6 : decode cL_isSound 6 = .ok (.iconst 0, 1) := by decide +kernel
theorem dL_isSound_7 : decode cL_isSound 7 = .ok (.istore_n 2, 1) := by decide +kernel
theorem dL_isSound_8 : decode cL_isSound 8 = .ok (.iconst 0, 1) := by decide +kernel
theorem dL_isSound_9 : decode cL_isSound 9 = .ok (.istore_n 3, 1) := by decide +kernel
theorem dL_isSound_10 : decode cL_isSound 10 = .ok (.iconst 0, 1) := by decide +kernel
theorem dL_isSound_11 : decode cL_isSound 11 = .ok (.istore 4, 2) := by decide +kernel
theorem dL_isSound_13 : decode cL_isSound 13 = .ok (.iload 4, 2) := by decide +kernel
theorem dL_isSound_15 : decode cL_isSound 15 = .ok (.iload_n 1, 1) := by decide +kernel
theorem dL_isSound_16 : decode cL_isSound 16 = .ok (.if_icmp .ge 257, 3) := by decide +kernel
theorem dL_isSound_19 : decode cL_isSound 19 = .ok (.aload_n 0, 1) := by decide +kernel
theorem dL_isSound_20 : decode cL_isSound 20 = .ok (.iload 4, 2) := by decide +kernel
theorem dL_isSound_22 : decode cL_isSound 22 = .ok (.invokevirtual 197, 3) := by decide +kernel
theorem dL_isSound_25 : decode cL_isSound 25 = .ok (.istore 5, 2) := by decide +kernel
theorem dL_isSound_27 : decode cL_isSound 27 = .ok (.iload 5, 2) := by decide +kernel
theorem dL_isSound_29 : decode cL_isSound 29 = .ok (.iload 4, 2) := by decide +kernel
theorem dL_isSound_31 : decode cL_isSound 31 = .ok (.ishr, 1) := by decide +kernel
theorem dL_isSound_32 : decode cL_isSound 32 = .ok (.iconst 1, 1) := by decide +kernel
theorem dL_isSound_33 : decode cL_isSound 33 = .ok (.iand, 1) := by decide +kernel
theorem dL_isSound_34 : decode cL_isSound 34 = .ok (.iconst 1, 1) := by decide +kernel
theorem dL_isSound_35 : decode cL_isSound 35 = .ok (.if_icmp .eq 18, 3) := by decide +kernel
theorem dL_isSound_38 : decode cL_isSound 38 = .ok (.aload_n 0, 1) := by decide +kernel
theorem dL_isSound_39 : decode cL_isSound 39 = .ok (.iload 4, 2) := by decide +kernel
theorem dL_isSound_41 : decode cL_isSound 41 = .ok (.invokevirtual 200, 3) := by decide +kernel
theorem dL_isSound_44 : decode cL_isSound 44 = .ok (.iload 4, 2) := by decide +kernel
theorem dL_isSound_46 : decode cL_isSound 46 = .ok (.ishr, 1) := by decide +kernel
theorem dL_isSound_47 : decode cL_isSound 47 = .ok (.iconst 1, 1) := by decide +kernel
theorem dL_isSound_48 : decode cL_isSound 48 = .ok (.iand, 1) := by decide +kernel
theorem dL_isSound_49 : decode cL_isSound 49 = .ok (.iconst 1, 1) := by decide +kernel
theorem dL_isSound_50 : decode cL_isSound 50 = .ok (.if_icmp .ne 5, 3) := by decide +kernel
theorem dL_isSound_53 : decode cL_isSound 53 = .ok (.iconst 0, 1) := by decide +kernel
theorem dL_isSound_54 : decode cL_isSound 54 = .ok (.ireturn, 1) := by decide +kernel
theorem dL_isSound_55 : decode cL_isSound 55 = .ok (.aload_n 0, 1) := by decide +kernel
theorem dL_isSound_56 : decode cL_isSound 56 = .ok (.iload 4, 2) := by decide +kernel
theorem dL_isSound_58 : decode cL_isSound 58 = .ok (.iconst 2, 1) := by decide +kernel
theorem dL_isSound_59 : decode cL_isSound 59 = .ok (.invokevirtual 123, 3) := by decide +kernel
theorem dL_isSound_62 : decode cL_isSound 62 = .ok (.istore 6, 2) := by decide +kernel
theorem dL_isSound_64 : decode cL_isSound 64 = .ok (.iload 6, 2) := by decide +kernel
theorem dL_isSound_66 : decode cL_isSound 66 = .ok (.ifCond .ge 21, 3) := by decide +kernel
theorem dL_isSound_69 : decode cL_isSound 69 = .ok (.iload 5, 2) := by decide +kernel
theorem dL_isSound_71 : decode cL_isSound 71 = .ok (.ifCond .ne 49, 3) := by decide +kernel
theorem dL_isSound_74 : decode cL_isSound 74 = .ok (.aload_n 0, 1) := by decide +kernel
theorem dL_isSound_75 : decode cL_isSound 75 = .ok (.iload 4, 2) := by decide +kernel
theorem dL_isSound_77 : decode cL_isSound 77 = .ok (.iconst 1, 1) := by decide +kernel
theorem dL_isSound_78 : decode cL_isSound 78 = .ok (.invokevirtual 123, 3) := by decide +kernel
theorem dL_isSound_81 : decode cL_isSound 81 = .ok (.ifCond .eq 41, 3) := by decide +kernel
theorem dL_isSound_84 : decode cL_isSound 84 = .ok (.goto 36, 3) := by decide +kernel
theorem dL_isSound_87 : decode cL_isSound 87 = .ok (.aload_n 0, 1) := by decide +kernel
theorem dL_isSound_88 : decode cL_isSound 88 = .ok (.iload 6, 2) := by decide +kernel
theorem dL_isSound_90 : decode cL_isSound 90 = .ok (.invokevirtual 148, 3) := by decide +kernel
theorem dL_isSound_93 : decode cL_isSound 93 = .ok (.iload 4, 2) := by decide +kernel
theorem dL_isSound_95 : decode cL_isSound 95 = .ok (.ishr, 1) := by decide +kernel
theorem dL_isSound_96 : decode cL_isSound 96 = .ok (.iconst 1, 1) := by decide +kernel
theorem dL_isSound_97 : decode cL_isSound 97 = .ok (.iand, 1) := by decide +kernel
theorem dL_isSound_98 : decode cL_isSound 98 = .ok (.ifCond .eq 22, 3) := by decide +kernel
theorem dL_isSound_101 : decode cL_isSound 101 = .ok (.aload_n 0, 1) := by decide +kernel
theorem dL_isSound_102 : decode cL_isSound 102 = .ok (.iload 4, 2) := by decide +kernel
theorem dL_isSound_104 : decode cL_isSound 104 = .ok (.iconst 1, 1) := by decide +kernel
theorem dL_isSound_105 : decode cL_isSound 105 = .ok (.invokevirtual 123, 3) := by decide +kernel
theorem dL_isSound_108 : decode cL_isSound 108 = .ok (.aload_n 0, 1) := by decide +kernel
theorem dL_isSound_109 : decode cL_isSound 109 = .ok (.iload 6, 2) := by decide +kernel
theorem dL_isSound_111 : decode cL_isSound 111 = .ok (.iconst 3, 1) := by decide +kernel
theorem dL_isSound_112 : decode cL_isSound 112 = .ok (.invokevirtual 134, 3) := by decide +kernel
theorem dL_isSound_115 : decode cL_isSound 115 = .ok (.iconst 1, 1) := by decide +kernel
theorem dL_isSound_116 : decode cL_isSound 116 = .ok (.iadd, 1) := by decide +kernel
theorem dL_isSound_117 : decode cL_isSound 117 = .ok (.if_icmp .eq 5, 3) := by decide +kernel
theorem dL_isSound_120 : decode cL_isSound 120 = .ok (.iconst 0, 1) := by decide +kernel
theorem dL_isSound_121 : decode cL_isSound 121 = .ok (.ireturn, 1) := by decide +kernel
theorem dL_isSound_122 : decode cL_isSound 122 = .ok (.aload_n 0, 1) := by decide +kernel
theorem dL_isSound_123 : decode cL_isSound 123 = .ok (.aload_n 0, 1) := by decide +kernel
theorem dL_isSound_124 : decode cL_isSound 124 = .ok (.iload 4, 2) := by decide +kernel
theorem dL_isSound_126 : decode cL_isSound 126 = .ok (.iconst 1, 1) := by decide +kernel
theorem dL_isSound_127 : decode cL_isSound 127 = .ok (.invokevirtual 123, 3) := by decide +kernel
theorem dL_isSound_130 : decode cL_isSound 130 = .ok (.aload_n 0, 1) := by decide +kernel
theorem dL_isSound_131 : decode cL_isSound 131 = .ok (.iload 4, 2) := by decide +kernel
theorem dL_isSound_133 : decode cL_isSound 133 = .ok (.invokevirtual 129, 3) := by decide +kernel
theorem dL_isSound_136 : decode cL_isSound 136 = .ok (.iconst 0, 1) := by decide +kernel
theorem dL_isSound_137 : decode cL_isSound 137 = .ok (.invokevirtual 157, 3) := by decide +kernel
theorem dL_isSound_140 : decode cL_isSound 140 = .ok (.iload 4, 2) := by decide +kernel
theorem dL_isSound_142 : decode cL_isSound 142 = .ok (.if_icmp .ne 25, 3) := by decide +kernel
theorem dL_isSound_145 : decode cL_isSound 145 = .ok (.aload_n 0, 1) := by decide +kernel
theorem dL_isSound_146 : decode cL_isSound 146 = .ok (.aload_n 0, 1) := by decide +kernel
theorem dL_isSound_147 : decode cL_isSound 147 = .ok (.iload 4, 2) := by decide +kernel
theorem dL_isSound_149 : decode cL_isSound 149 = .ok (.iconst 1, 1) := by decide +kernel
theorem dL_isSound_150 : decode cL_isSound 150 = .ok (.invokevirtual 123, 3) := by decide +kernel
theorem dL_isSound_153 : decode cL_isSound 153 = .ok (.aload_n 0, 1) := by decide +kernel
theorem dL_isSound_154 : decode cL_isSound 154 = .ok (.iload 4, 2) := by decide +kernel
theorem dL_isSound_156 : decode cL_isSound 156 = .ok (.invokevirtual 129, 3) := by decide +kernel
theorem dL_isSound_159 : decode cL_isSound 159 = .ok (.iconst 1, 1) := by decide +kernel
theorem dL_isSound_160 : decode cL_isSound 160 = .ok (.invokevirtual 157, 3) := by decide +kernel
theorem dL_isSound_163 : decode cL_isSound 163 = .ok (.iconst (-1), 1) := by decide +kernel
theorem dL_isSound_164 : decode cL_isSound 164 = .ok (.if_icmp .eq 5, 3) := by decide +kernel
theorem dL_isSound_167 : decode cL_isSound 167 = .ok (.iconst 0, 1) := by decide +kernel
theorem dL_isSound_168 : decode cL_isSound 168 = .ok (.ireturn, 1) := by decide +kernel
theorem dL_isSound_169 : decode cL_isSound 169 = .ok (.iconst 0, 1) := by decide +kernel
theorem dL_isSound_170 : decode cL_isSound 170 = .ok (.istore 7, 2) := by decide +kernel
theorem dL_isSound_172 : decode cL_isSound 172 = .ok (.iload 7, 2) := by decide +kernel
theorem dL_isSound_174 : decode cL_isSound 174 = .ok (.iload_n 1, 1) := by decide +kernel
theorem dL_isSound_175 : decode cL_isSound 175 = .ok (.if_icmp .ge 92, 3) := by decide +kernel
theorem dL_isSound_178 : decode cL_isSound 178 = .ok (.aload_n 0, 1) := by decide +kernel
theorem dL_isSound_179 : decode cL_isSound 179 = .ok (.iload 4, 2) := by decide +kernel
theorem dL_isSound_181 : decode cL_isSound 181 = .ok (.iload 7, 2) := by decide +kernel
theorem dL_isSound_183 : decode cL_isSound 183 = .ok (.invokevirtual 203, 3) := by decide +kernel
theorem dL_isSound_186 : decode cL_isSound 186 = .ok (.aload_n 0, 1) := by decide +kernel
theorem dL_isSound_187 : decode cL_isSound 187 = .ok (.iload 7, 2) := by decide +kernel
theorem dL_isSound_189 : decode cL_isSound 189 = .ok (.iload 4, 2) := by decide +kernel
theorem dL_isSound_191 : decode cL_isSound 191 = .ok (.invokevirtual 203, 3) := by decide +kernel
theorem dL_isSound_194 : decode cL_isSound 194 = .ok (.lcmp, 1) := by decide +kernel
theorem dL_isSound_195 : decode cL_isSound 195 = .ok (.ifCond .ne 64, 3) := by decide +kernel
theorem dL_isSound_198 : decode cL_isSound 198 = .ok (.aload_n 0, 1) := by decide +kernel
theorem dL_isSound_199 : decode cL_isSound 199 = .ok (.iload 4, 2) := by decide +kernel
theorem dL_isSound_201 : decode cL_isSound 201 = .ok (.iload 7, 2) := by decide +kernel
theorem dL_isSound_203 : decode cL_isSound 203 = .ok (.invokevirtual 207, 3) := by decide +kernel
theorem dL_isSound_206 : decode cL_isSound 206 = .ok (.aload_n 0, 1) := by decide +kernel
theorem dL_isSound_207 : decode cL_isSound 207 = .ok (.iload 7, 2) := by decide +kernel
theorem dL_isSound_209 : decode cL_isSound 209 = .ok (.iload 4, 2) := by decide +kernel
theorem dL_isSound_211 : decode cL_isSound 211 = .ok (.invokevirtual 207, 3) := by decide +kernel
theorem dL_isSound_214 : decode cL_isSound 214 = .ok (.if_icmp .ne 45, 3) := by decide +kernel
theorem dL_isSound_217 : decode cL_isSound 217 = .ok (.aload_n 0, 1) := by decide +kernel
theorem dL_isSound_218 : decode cL_isSound 218 = .ok (.iload 4, 2) := by decide +kernel
theorem dL_isSound_220 : decode cL_isSound 220 = .ok (.iload 7, 2) := by decide +kernel
theorem dL_isSound_222 : decode cL_isSound 222 = .ok (.invokevirtual 210, 3) := by decide +kernel
theorem dL_isSound_225 : decode cL_isSound 225 = .ok (.ifCond .le 7, 3) := by decide +kernel
theorem dL_isSound_228 : decode cL_isSound 228 = .ok (.iconst 1, 1) := by decide +kernel
theorem dL_isSound_229 : decode cL_isSound 229 = .ok (.goto 4, 3) := by decide +kernel
theorem dL_isSound_232 : decode cL_isSound 232 = .ok (.iconst 0, 1) := by decide +kernel
theorem dL_isSound_233 : decode cL_isSound 233 = .ok (.iload 4, 2) := by decide +kernel
theorem dL_isSound_235 : decode cL_isSound 235 = .ok (.iload 7, 2) := by decide +kernel
theorem dL_isSound_237 : decode cL_isSound 237 = .ok (.if_icmp .eq 14, 3) := by decide +kernel
theorem dL_isSound_240 : decode cL_isSound 240 = .ok (.iload 5, 2) := by decide +kernel
theorem dL_isSound_242 : decode cL_isSound 242 = .ok (.iload 7, 2) := by decide +kernel
theorem dL_isSound_244 : decode cL_isSound 244 = .ok (.ishr, 1) := by decide +kernel
theorem dL_isSound_245 : decode cL_isSound 245 = .ok (.iconst 1, 1) := by decide +kernel
theorem dL_isSound_246 : decode cL_isSound 246 = .ok (.iand, 1) := by decide +kernel
theorem dL_isSound_247 : decode cL_isSound 247 = .ok (.iconst 1, 1) := by decide +kernel
theorem dL_isSound_248 : decode cL_isSound 248 = .ok (.if_icmp .ne 7, 3) := by decide +kernel
theorem dL_isSound_251 : decode cL_isSound 251 = .ok (.iconst 1, 1) := by decide +kernel
theorem dL_isSound_252 : decode cL_isSound 252 = .ok (.goto 4, 3) := by decide +kernel
theorem dL_isSound_255 : decode cL_isSound 255 = .ok (.iconst 0, 1) := by decide +kernel
theorem dL_isSound_256 : decode cL_isSound 256 = .ok (.if_icmp .eq 5, 3) := by decide +kernel
theorem dL_isSound_259 : decode cL_isSound 259 = .ok (.iconst 0, 1) := by decide +kernel
theorem dL_isSound_260 : decode cL_isSound 260 = .ok (.ireturn, 1) := by decide +kernel
theorem dL_isSound_261 : decode cL_isSound 261 = .ok (.iinc 7 3, 3) := by decide +kernel
theorem dL_isSound_264 : decode cL_isSound 264 = .ok (.goto (-92), 3) := by decide +kernel
theorem dL_isSound_267 : decode cL_isSound 267 = .ok (.iinc 4 1, 3) := by decide +kernel
theorem dL_isSound_270 : decode cL_isSound 270 = .ok (.goto (-257), 3) := by decide +kernel
theorem dL_isSound_273 : decode cL_isSound 273 = .ok (.iconst 0, 1) := by decide +kernel
theorem dL_isSound_274 : decode cL_isSound 274 = .ok (.istore 4, 2) := by decide +kernel
theorem dL_isSound_276 : decode cL_isSound 276 = .ok (.iload 4, 2) := by decide +kernel
theorem dL_isSound_278 : decode cL_isSound 278 = .ok (.aload_n 0, 1) := by decide +kernel
theorem dL_isSound_279 : decode cL_isSound 279 = .ok (.iconst 2, 1) := by decide +kernel
theorem dL_isSound_280 : decode cL_isSound 280 = .ok (.invokevirtual 111, 3) := by decide +kernel
theorem dL_isSound_283 : decode cL_isSound 283 = .ok (.if_icmp .ge 98, 3) := by decide +kernel
theorem dL_isSound_286 : decode cL_isSound 286 = .ok (.iconst 0, 1) := by decide +kernel
theorem dL_isSound_287 : decode cL_isSound 287 = .ok (.istore 5, 2) := by decide +kernel
theorem dL_isSound_289 : decode cL_isSound 289 = .ok (.iconst 0, 1) := by decide +kernel
theorem dL_isSound_290 : decode cL_isSound 290 = .ok (.istore 6, 2) := by decide +kernel
theorem dL_isSound_292 : decode cL_isSound 292 = .ok (.iload 6, 2) := by decide +kernel
theorem dL_isSound_294 : decode cL_isSound 294 = .ok (.aload_n 0, 1) := by decide +kernel
theorem dL_isSound_295 : decode cL_isSound 295 = .ok (.iload 4, 2) := by decide +kernel
theorem dL_isSound_297 : decode cL_isSound 297 = .ok (.invokevirtual 151, 3) := by decide +kernel
theorem dL_isSound_300 : decode cL_isSound 300 = .ok (.if_icmp .ge 48, 3) := by decide +kernel
theorem dL_isSound_303 : decode cL_isSound 303 = .ok (.aload_n 0, 1) := by decide +kernel
theorem dL_isSound_304 : decode cL_isSound 304 = .ok (.iload 4, 2) := by decide +kernel
theorem dL_isSound_306 : decode cL_isSound 306 = .ok (.iload 6, 2) := by decide +kernel
theorem dL_isSound_308 : decode cL_isSound 308 = .ok (.iconst 2, 1) := by decide +kernel
theorem dL_isSound_309 : decode cL_isSound 309 = .ok (.invokevirtual 157, 3) := by decide +kernel
theorem dL_isSound_312 : decode cL_isSound 312 = .ok (.iload 5, 2) := by decide +kernel
theorem dL_isSound_314 : decode cL_isSound 314 = .ok (.if_icmp .ge 5, 3) := by decide +kernel
theorem dL_isSound_317 : decode cL_isSound 317 = .ok (.iconst 0, 1) := by decide +kernel
theorem dL_isSound_318 : decode cL_isSound 318 = .ok (.ireturn, 1) := by decide +kernel
theorem dL_isSound_319 : decode cL_isSound 319 = .ok (.aload_n 0, 1) := by decide +kernel
theorem dL_isSound_320 : decode cL_isSound 320 = .ok (.iload 4, 2) := by decide +kernel
theorem dL_isSound_322 : decode cL_isSound 322 = .ok (.iload 6, 2) := by decide +kernel
theorem dL_isSound_324 : decode cL_isSound 324 = .ok (.iconst 2, 1) := by decide +kernel
theorem dL_isSound_325 : decode cL_isSound 325 = .ok (.invokevirtual 157, 3) := by decide +kernel
theorem dL_isSound_328 : decode cL_isSound 328 = .ok (.aload_n 0, 1) := by decide +kernel
theorem dL_isSound_329 : decode cL_isSound 329 = .ok (.iload 4, 2) := by decide +kernel
theorem dL_isSound_331 : decode cL_isSound 331 = .ok (.iload 6, 2) := by decide +kernel
theorem dL_isSound_333 : decode cL_isSound 333 = .ok (.iconst 3, 1) := by decide +kernel
theorem dL_isSound_334 : decode cL_isSound 334 = .ok (.invokevirtual 157, 3) := by decide +kernel
theorem dL_isSound_337 : decode cL_isSound 337 = .ok (.iadd, 1) := by decide +kernel
theorem dL_isSound_338 : decode cL_isSound 338 = .ok (.iconst 1, 1) := by decide +kernel
theorem dL_isSound_339 : decode cL_isSound 339 = .ok (.iadd, 1) := by decide +kernel
theorem dL_isSound_340 : decode cL_isSound 340 = .ok (.istore 5, 2) := by decide +kernel
theorem dL_isSound_342 : decode cL_isSound 342 = .ok (.iinc 6 1, 3) := by decide +kernel
theorem dL_isSound_345 : decode cL_isSound 345 = .ok (.goto (-53), 3) := by decide +kernel
theorem dL_isSound_348 : decode cL_isSound 348 = .ok (.iload_n 2, 1) := by decide +kernel
theorem dL_isSound_349 : decode cL_isSound 349 = .ok (.aload_n 0, 1) := by decide +kernel
theorem dL_isSound_350 : decode cL_isSound 350 = .ok (.iload 4, 2) := by decide +kernel
theorem dL_isSound_352 : decode cL_isSound 352 = .ok (.invokevirtual 151, 3) := by decide +kernel
theorem dL_isSound_355 : decode cL_isSound 355 = .ok (.iadd, 1) := by decide +kernel
theorem dL_isSound_356 : decode cL_isSound 356 = .ok (.istore_n 2, 1) := by decide +kernel
theorem dL_isSound_357 : decode cL_isSound 357 = .ok (.iload_n 3, 1) := by decide +kernel
theorem dL_isSound_358 : decode cL_isSound 358 = .ok (.aload_n 0, 1) := by decide +kernel
theorem dL_isSound_359 : decode cL_isSound 359 = .ok (.iload 4, 2) := by decide +kernel
theorem dL_isSound_361 : decode cL_isSound 361 = .ok (.iconst 0, 1) := by decide +kernel
theorem dL_isSound_362 : decode cL_isSound 362 = .ok (.invokevirtual 213, 3) := by decide +kernel
theorem dL_isSound_365 : decode cL_isSound 365 = .ok (.aload_n 0, 1) := by decide +kernel
theorem dL_isSound_366 : decode cL_isSound 366 = .ok (.iload 4, 2) := by decide +kernel
theorem dL_isSound_368 : decode cL_isSound 368 = .ok (.iconst 1, 1) := by decide +kernel
theorem dL_isSound_369 : decode cL_isSound 369 = .ok (.invokevirtual 213, 3) := by decide +kernel
theorem dL_isSound_372 : decode cL_isSound 372 = .ok (.iadd, 1) := by decide +kernel
theorem dL_isSound_373 : decode cL_isSound 373 = .ok (.iadd, 1) := by decide +kernel
theorem dL_isSound_374 : decode cL_isSound 374 = .ok (.istore_n 3, 1) := by decide +kernel
theorem dL_isSound_375 : decode cL_isSound 375 = .ok (.iinc 4 1, 3) := by decide +kernel
theorem dL_isSound_378 : decode cL_isSound 378 = .ok (.goto (-102), 3) := by decide +kernel
theorem dL_isSound_381 : decode cL_isSound 381 = .ok (.iload_n 2, 1) := by decide +kernel
theorem dL_isSound_382 : decode cL_isSound 382 = .ok (.aload_n 0, 1) := by decide +kernel
theorem dL_isSound_383 : decode cL_isSound 383 = .ok (.iconst 3, 1) := by decide +kernel
theorem dL_isSound_384 : decode cL_isSound 384 = .ok (.invokevirtual 111, 3) := by decide +kernel
theorem dL_isSound_387 : decode cL_isSound 387 = .ok (.if_icmp .ne 39, 3) := by decide +kernel
theorem dL_isSound_390 : decode cL_isSound 390 = .ok (.iload_n 2, 1) := by decide +kernel
theorem dL_isSound_391 : decode cL_isSound 391 = .ok (.iload_n 1, 1) := by decide +kernel
theorem dL_isSound_392 : decode cL_isSound 392 = .ok (.aload_n 0, 1) := by decide +kernel
theorem dL_isSound_393 : decode cL_isSound 393 = .ok (.iconst 4, 1) := by decide +kernel
theorem dL_isSound_394 : decode cL_isSound 394 = .ok (.invokevirtual 111, 3) := by decide +kernel
theorem dL_isSound_397 : decode cL_isSound 397 = .ok (.iadd, 1) := by decide +kernel
theorem dL_isSound_398 : decode cL_isSound 398 = .ok (.if_icmp .ne 28, 3) := by decide +kernel
theorem dL_isSound_401 : decode cL_isSound 401 = .ok (.iload_n 3, 1) := by decide +kernel
theorem dL_isSound_402 : decode cL_isSound 402 = .ok (.aload_n 0, 1) := by decide +kernel
theorem dL_isSound_403 : decode cL_isSound 403 = .ok (.invokevirtual 117, 3) := by decide +kernel
theorem dL_isSound_406 : decode cL_isSound 406 = .ok (.if_icmp .ne 20, 3) := by decide +kernel
theorem dL_isSound_409 : decode cL_isSound 409 = .ok (.aload_n 0, 1) := by decide +kernel
theorem dL_isSound_410 : decode cL_isSound 410 = .ok (.iconst 4, 1) := by decide +kernel
theorem dL_isSound_411 : decode cL_isSound 411 = .ok (.invokevirtual 111, 3) := by decide +kernel
theorem dL_isSound_414 : decode cL_isSound 414 = .ok (.aload_n 0, 1) := by decide +kernel
theorem dL_isSound_415 : decode cL_isSound 415 = .ok (.iconst 1, 1) := by decide +kernel
theorem dL_isSound_416 : decode cL_isSound 416 = .ok (.invokevirtual 111, 3) := by decide +kernel
theorem dL_isSound_419 : decode cL_isSound 419 = .ok (.if_icmp .gt 7, 3) := by decide +kernel
theorem dL_isSound_422 : decode cL_isSound 422 = .ok (.iconst 1, 1) := by decide +kernel
theorem dL_isSound_423 : decode cL_isSound 423 = .ok (.goto 4, 3) := by decide +kernel
theorem dL_isSound_426 : decode cL_isSound 426 = .ok (.iconst 0, 1) := by decide +kernel
theorem dL_isSound_427 : decode cL_isSound 427 = .ok (.ireturn, 1) := by decide +kernel
theorem dL_isPrinted_0 : decode cL_isPrinted 0 = .ok (.aload_n 0, 1) := by decide +kernel
theorem dL_isPrinted_1 : decode cL_isPrinted 1 = .ok (.iload_n 1, 1) := by decide +kernel
theorem dL_isPrinted_2 : decode cL_isPrinted 2 = .ok (.invokevirtual 217, 3) := by decide +kernel
theorem dL_isPrinted_5 : decode cL_isPrinted 5 = .ok (.istore_n 2, 1) := by decide +kernel
theorem dL_isPrinted_6 : decode cL_isPrinted 6 = .ok (.iconst 0, 1) := by decide +kernel
theorem dL_isPrinted_7 : decode cL_isPrinted 7 = .ok (.istore_n 3, 1) := by decide +kernel
theorem dL_isPrinted_8 : decode cL_isPrinted 8 = .ok (.iconst 0, 1) := by decide +kernel
theorem dL_isPrinted_9 : decode cL_isPrinted 9 = .ok (.istore 4, 2) := by decide +kernel
theorem dL_isPrinted_11 : decode cL_isPrinted 11 = .ok (.iconst 0, 1) := by decide +kernel
theorem dL_isPrinted_12 : decode cL_isPrinted 12 = .ok (.istore 5, 2) := by decide +kernel
theorem dL_isPrinted_14 : decode cL_isPrinted 14 = .ok (.iconst 0, 1) := by decide +kernel
theorem dL_isPrinted_15 : decode cL_isPrinted 15 = .ok (.istore 6, 2) := by decide +kernel
theorem dL_isPrinted_17 : decode cL_isPrinted 17 = .ok (.iload 6, 2) := by decide +kernel
theorem dL_isPrinted_19 : decode cL_isPrinted 19 = .ok (.iconst 3, 1) := by decide +kernel
theorem dL_isPrinted_20 : decode cL_isPrinted 20 = .ok (.aload_n 0, 1) := by decide +kernel
theorem dL_isPrinted_21 : decode cL_isPrinted 21 = .ok (.iconst 2, 1) := by decide +kernel
theorem dL_isPrinted_22 : decode cL_isPrinted 22 = .ok (.invokevirtual 111, 3) := by decide +kernel
theorem dL_isPrinted_25 : decode cL_isPrinted 25 = .ok (.imul, 1) := by decide +kernel
theorem dL_isPrinted_26 : decode cL_isPrinted 26 = .ok (.if_icmp .ge 179, 3) := by decide +kernel
theorem dL_isPrinted_29 : decode cL_isPrinted 29 = .ok (.iconst 0, 1) := by decide +kernel
theorem dL_isPrinted_30 : decode cL_isPrinted 30 = .ok (.istore 7, 2) := by decide +kernel
theorem dL_isPrinted_32 : decode cL_isPrinted 32 = .ok (.iconst 0, 1) := by decide +kernel
theorem dL_isPrinted_33 : decode cL_isPrinted 33 = .ok (.istore 8, 2) := by decide +kernel
theorem dL_isPrinted_35 : decode cL_isPrinted 35 = .ok (.iconst 0, 1) := by decide +kernel
theorem dL_isPrinted_36 : decode cL_isPrinted 36 = .ok (.istore 9, 2) := by decide +kernel
theorem dL_isPrinted_38 : decode cL_isPrinted 38 = .ok (.iload 9, 2) := by decide +kernel
theorem dL_isPrinted_40 : decode cL_isPrinted 40 = .ok (.iload_n 2, 1) := by decide +kernel
theorem dL_isPrinted_41 : decode cL_isPrinted 41 = .ok (.if_icmp .ge 136, 3) := by decide +kernel
theorem dL_isPrinted_44 : decode cL_isPrinted 44 = .ok (.aload_n 0, 1) := by decide +kernel
theorem dL_isPrinted_45 : decode cL_isPrinted 45 = .ok (.iload 6, 2) := by decide +kernel
theorem dL_isPrinted_47 : decode cL_isPrinted 47 = .ok (.iload 9, 2) := by decide +kernel
theorem dL_isPrinted_49 : decode cL_isPrinted 49 = .ok (.iload_n 1, 1) := by decide +kernel
theorem dL_isPrinted_50 : decode cL_isPrinted 50 = .ok (.invokevirtual 220, 3) := by decide +kernel
theorem dL_isPrinted_53 : decode cL_isPrinted 53 = .ok (.istore 10, 2) := by decide +kernel
theorem dL_isPrinted_55 : decode cL_isPrinted 55 = .ok (.iload 8, 2) := by decide +kernel
theorem dL_isPrinted_57 : decode cL_isPrinted 57 = .ok (.ifCond .eq 8, 3) := by decide +kernel
theorem dL_isPrinted_60 : decode cL_isPrinted 60 = .ok (.iload 10, 2) := by decide +kernel
theorem dL_isPrinted_62 : decode cL_isPrinted 62 = .ok (.ifCond .gt 9, 3) := by decide +kernel
theorem dL_isPrinted_65 : decode cL_isPrinted 65 = .ok (.iload 10, 2) := by decide +kernel
theorem dL_isPrinted_67 : decode cL_isPrinted 67 = .ok (.iload_n 1, 1) := by decide +kernel
theorem dL_isPrinted_68 : decode cL_isPrinted 68 = .ok (.if_icmp .le 5, 3) := by decide +kernel
theorem dL_isPrinted_71 : decode cL_isPrinted 71 = .ok (.iconst 0, 1) := by decide +kernel
theorem dL_isPrinted_72 : decode cL_isPrinted 72 = .ok (.ireturn, 1) := by decide +kernel
theorem dL_isPrinted_73 : decode cL_isPrinted 73 = .ok (.iload 10, 2) := by decide +kernel
theorem dL_isPrinted_75 : decode cL_isPrinted 75 = .ok (.iload_n 1, 1) := by decide +kernel
theorem dL_isPrinted_76 : decode cL_isPrinted 76 = .ok (.if_icmp .ge 7, 3) := by decide +kernel
theorem dL_isPrinted_79 : decode cL_isPrinted 79 = .ok (.iconst 1, 1) := by decide +kernel
theorem dL_isPrinted_80 : decode cL_isPrinted 80 = .ok (.goto 4, 3) := by decide +kernel
theorem dL_isPrinted_83 : decode cL_isPrinted 83 = .ok (.iconst 0, 1) := by decide +kernel
theorem dL_isPrinted_84 : decode cL_isPrinted 84 = .ok (.istore 8, 2) := by decide +kernel
theorem dL_isPrinted_86 : decode cL_isPrinted 86 = .ok (.iload 7, 2) := by decide +kernel
theorem dL_isPrinted_88 : decode cL_isPrinted 88 = .ok (.iload 10, 2) := by decide +kernel
theorem dL_isPrinted_90 : decode cL_isPrinted 90 = .ok (.iadd, 1) := by decide +kernel
theorem dL_isPrinted_91 : decode cL_isPrinted 91 = .ok (.istore 7, 2) := by decide +kernel
theorem dL_isPrinted_93 : decode cL_isPrinted 93 = .ok (.iconst 0, 1) := by decide +kernel
theorem dL_isPrinted_94 : decode cL_isPrinted 94 = .ok (.istore 11, 2) := by decide +kernel
theorem dL_isPrinted_96 : decode cL_isPrinted 96 = .ok (.iload 11, 2) := by decide +kernel
theorem dL_isPrinted_98 : decode cL_isPrinted 98 = .ok (.iload 10, 2) := by decide +kernel
theorem dL_isPrinted_100 : decode cL_isPrinted 100 = .ok (.if_icmp .ge 71, 3) := by decide +kernel
theorem dL_isPrinted_103 : decode cL_isPrinted 103 = .ok (.aload_n 0, 1) := by decide +kernel
theorem dL_isPrinted_104 : decode cL_isPrinted 104 = .ok (.iload 11, 2) := by decide +kernel
theorem dL_isPrinted_106 : decode cL_isPrinted 106 = .ok (.invokevirtual 223, 3) := by decide +kernel
theorem dL_isPrinted_109 : decode cL_isPrinted 109 = .ok (.bipush 32, 2) := by decide +kernel
theorem dL_isPrinted_111 : decode cL_isPrinted 111 = .ok (.if_icmp .eq 7, 3) := by decide +kernel
theorem dL_isPrinted_114 : decode cL_isPrinted 114 = .ok (.iconst 1, 1) := by decide +kernel
theorem dL_isPrinted_115 : decode cL_isPrinted 115 = .ok (.goto 4, 3) := by decide +kernel
theorem dL_isPrinted_118 : decode cL_isPrinted 118 = .ok (.iconst 0, 1) := by decide +kernel
theorem dL_isPrinted_119 : decode cL_isPrinted 119 = .ok (.istore 12, 2) := by decide +kernel
theorem dL_isPrinted_121 : decode cL_isPrinted 121 = .ok (.iload_n 3, 1) := by decide +kernel
theorem dL_isPrinted_122 : decode cL_isPrinted 122 = .ok (.iload 12, 2) := by decide +kernel
theorem dL_isPrinted_124 : decode cL_isPrinted 124 = .ok (.ifCond .eq 15, 3) := by decide +kernel
theorem dL_isPrinted_127 : decode cL_isPrinted 127 = .ok (.iload 6, 2) := by decide +kernel
theorem dL_isPrinted_129 : decode cL_isPrinted 129 = .ok (.iconst 3, 1) := by decide +kernel
theorem dL_isPrinted_130 : decode cL_isPrinted 130 = .ok (.irem, 1) := by decide +kernel
theorem dL_isPrinted_131 : decode cL_isPrinted 131 = .ok (.iconst 1, 1) := by decide +kernel
theorem dL_isPrinted_132 : decode cL_isPrinted 132 = .ok (.if_icmp .ne 7, 3) := by decide +kernel
theorem dL_isPrinted_135 : decode cL_isPrinted 135 = .ok (.iconst 1, 1) := by decide +kernel
theorem dL_isPrinted_136 : decode cL_isPrinted 136 = .ok (.goto 4, 3) := by decide +kernel
theorem dL_isPrinted_139 : decode cL_isPrinted 139 = .ok (.iconst 0, 1) := by decide +kernel
theorem dL_isPrinted_140 : decode cL_isPrinted 140 = .ok (.iadd, 1) := by decide +kernel
theorem dL_isPrinted_141 : decode cL_isPrinted 141 = .ok (.istore_n 3, 1) := by decide +kernel
theorem dL_isPrinted_142 : decode cL_isPrinted 142 = .ok (.iload 4, 2) := by decide +kernel
theorem dL_isPrinted_144 : decode cL_isPrinted 144 = .ok (.iload 12, 2) := by decide +kernel
theorem dL_isPrinted_146 : decode cL_isPrinted 146 = .ok (.ifCond .eq 15, 3) := by decide +kernel
theorem dL_isPrinted_149 : decode cL_isPrinted 149 = .ok (.iload 6, 2) := by decide +kernel
theorem dL_isPrinted_151 : decode cL_isPrinted 151 = .ok (.iconst 3, 1) := by decide +kernel
theorem dL_isPrinted_152 : decode cL_isPrinted 152 = .ok (.irem, 1) := by decide +kernel
theorem dL_isPrinted_153 : decode cL_isPrinted 153 = .ok (.iconst 2, 1) := by decide +kernel
theorem dL_isPrinted_154 : decode cL_isPrinted 154 = .ok (.if_icmp .ne 7, 3) := by decide +kernel
theorem dL_isPrinted_157 : decode cL_isPrinted 157 = .ok (.iconst 1, 1) := by decide +kernel
theorem dL_isPrinted_158 : decode cL_isPrinted 158 = .ok (.goto 4, 3) := by decide +kernel
theorem dL_isPrinted_161 : decode cL_isPrinted 161 = .ok (.iconst 0, 1) := by decide +kernel
theorem dL_isPrinted_162 : decode cL_isPrinted 162 = .ok (.iadd, 1) := by decide +kernel
theorem dL_isPrinted_163 : decode cL_isPrinted 163 = .ok (.istore 4, 2) := by decide +kernel
theorem dL_isPrinted_165 : decode cL_isPrinted 165 = .ok (.iinc 11 1, 3) := by decide +kernel
theorem dL_isPrinted_168 : decode cL_isPrinted 168 = .ok (.goto (-72), 3) := by decide +kernel
theorem dL_isPrinted_171 : decode cL_isPrinted 171 = .ok (.iinc 9 1, 3) := by decide +kernel
theorem dL_isPrinted_174 : decode cL_isPrinted 174 = .ok (.goto (-136), 3) := by decide +kernel
theorem dL_isPrinted_177 : decode cL_isPrinted 177 = .ok (.iload 5, 2) := by decide +kernel
theorem dL_isPrinted_179 : decode cL_isPrinted 179 = .ok (.iload 7, 2) := by decide +kernel
theorem dL_isPrinted_181 : decode cL_isPrinted 181 = .ok (.invokestatic 226, 3) := by decide +kernel
theorem dL_isPrinted_184 : decode cL_isPrinted 184 = .ok (.istore 5, 2) := by decide +kernel
theorem dL_isPrinted_186 : decode cL_isPrinted 186 = .ok (.aload_n 0, 1) := by decide +kernel
theorem dL_isPrinted_187 : decode cL_isPrinted 187 = .ok (.iload 6, 2) := by decide +kernel
theorem dL_isPrinted_189 : decode cL_isPrinted 189 = .ok (.iload_n 2, 1) := by decide +kernel
theorem dL_isPrinted_190 : decode cL_isPrinted 190 = .ok (.iload_n 1, 1) := by decide +kernel
theorem dL_isPrinted_191 : decode cL_isPrinted 191 = .ok (.invokevirtual 220, 3) := by decide +kernel
theorem dL_isPrinted_194 : decode cL_isPrinted 194 = .ok (.ifCond .eq 5, 3) := by decide +kernel
theorem dL_isPrinted_197 : decode cL_isPrinted 197 = .ok (.iconst 0, 1) := by decide +kernel
theorem dL_isPrinted_198 : decode cL_isPrinted 198 = .ok (.ireturn, 1) := by decide +kernel
theorem dL_isPrinted_199 : decode cL_isPrinted 199 = .ok (.iinc 6 1, 3) := by decide +kernel
theorem dL_isPrinted_202 : decode cL_isPrinted 202 = .ok (.goto (-185), 3) := by decide +kernel
theorem dL_isPrinted_205 : decode cL_isPrinted 205 = .ok (.iconst 0, 1) := by decide +kernel
theorem dL_isPrinted_206 : decode cL_isPrinted 206 = .ok (.istore 6, 2) := by decide +kernel
theorem dL_isPrinted_208 : decode cL_isPrinted 208 = .ok (.iconst 0, 1) := by decide +kernel
theorem dL_isPrinted_209 : decode cL_isPrinted 209 = .ok (.istore 7, 2) := by decide +kernel
theorem dL_isPrinted_211 : decode cL_isPrinted 211 = .ok (.iload 7, 2) := by decide +kernel
theorem dL_isPrinted_213 : decode cL_isPrinted 213 = .ok (.aload_n 0, 1) := by decide +kernel
theorem dL_isPrinted_214 : decode cL_isPrinted 214 = .ok (.iconst 0, 1) := by decide +kernel
theorem dL_isPrinted_215 : decode cL_isPrinted 215 = .ok (.invokevirtual 111, 3) := by decide +kernel
theorem dL_isPrinted_218 : decode cL_isPrinted 218 = .ok (.if_icmp .ge 29, 3) := by decide +kernel
theorem dL_isPrinted_221 : decode cL_isPrinted 221 = .ok (.iload 6, 2) := by decide +kernel
theorem dL_isPrinted_223 : decode cL_isPrinted 223 = .ok (.aload_n 0, 1) := by decide +kernel
theorem dL_isPrinted_224 : decode cL_isPrinted 224 = .ok (.iload 7, 2) := by decide +kernel
theorem dL_isPrinted_226 : decode cL_isPrinted 226 = .ok (.iconst 2, 1) := by decide +kernel
theorem dL_isPrinted_227 : decode cL_isPrinted 227 = .ok (.invokevirtual 123, 3) := by decide +kernel
theorem dL_isPrinted_230 : decode cL_isPrinted 230 = .ok (.ifCond .ge 7, 3) := by decide +kernel
theorem dL_isPrinted_233 : decode cL_isPrinted 233 = .ok (.iconst 0, 1) := by decide +kernel
theorem dL_isPrinted_234 : decode cL_isPrinted 234 = .ok (.goto 4, 3) := by decide +kernel
theorem dL_isPrinted_237 : decode cL_isPrinted 237 = .ok (.iconst 1, 1) := by decide +kernel
theorem dL_isPrinted_238 : decode cL_isPrinted 238 = .ok (.iadd, 1) := by decide +kernel
theorem dL_isPrinted_239 : decode cL_isPrinted 239 = .ok (.istore 6, 2) := by decide +kernel
theorem dL_isPrinted_241 : decode cL_isPrinted 241 = .ok (.iinc 7 1, 3) := by decide +kernel
theorem dL_isPrinted_244 : decode cL_isPrinted 244 = .ok (.goto (-33), 3) := by decide +kernel
theorem dL_isPrinted_247 : decode cL_isPrinted 247 = .ok (.iload_n 3, 1) := by decide +kernel
theorem dL_isPrinted_248 : decode cL_isPrinted 248 = .ok (.aload_n 0, 1) := by decide +kernel
theorem dL_isPrinted_249 : decode cL_isPrinted 249 = .ok (.iconst 1, 1) := by decide +kernel
theorem dL_isPrinted_250 : decode cL_isPrinted 250 = .ok (.invokevirtual 111, 3) := by decide +kernel
theorem dL_isPrinted_253 : decode cL_isPrinted 253 = .ok (.if_icmp .ne 33, 3) := by decide +kernel
theorem dL_isPrinted_256 : decode cL_isPrinted 256 = .ok (.iload 4, 2) := by decide +kernel
theorem dL_isPrinted_258 : decode cL_isPrinted 258 = .ok (.iload 6, 2) := by decide +kernel
theorem dL_isPrinted_260 : decode cL_isPrinted 260 = .ok (.if_icmp .ne 26, 3) := by decide +kernel
theorem dL_isPrinted_263 : decode cL_isPrinted 263 = .ok (.iload 5, 2) := by decide +kernel
theorem dL_isPrinted_265 : decode cL_isPrinted 265 = .ok (.aload_n 0, 1) := by decide +kernel
theorem dL_isPrinted_266 : decode cL_isPrinted 266 = .ok (.invokevirtual 231, 3) := by decide +kernel
theorem dL_isPrinted_269 : decode cL_isPrinted 269 = .ok (.if_icmp .ne 17, 3) := by decide +kernel
theorem dL_isPrinted_272 : decode cL_isPrinted 272 = .ok (.aload_n 0, 1) := by decide +kernel
theorem dL_isPrinted_273 : decode cL_isPrinted 273 = .ok (.sipush 200, 3) := by decide +kernel
theorem dL_isPrinted_276 : decode cL_isPrinted 276 = .ok (.invokevirtual 234, 3) := by decide +kernel
theorem dL_isPrinted_279 : decode cL_isPrinted 279 = .ok (.ifCond .lt 7, 3) := by decide +kernel
theorem dL_isPrinted_282 : decode cL_isPrinted 282 = .ok (.iconst 1, 1) := by decide +kernel
theorem dL_isPrinted_283 : decode cL_isPrinted 283 = .ok (.goto 4, 3) := by decide +kernel
theorem dL_isPrinted_286 : decode cL_isPrinted 286 = .ok (.iconst 0, 1) := by decide +kernel
theorem dL_isPrinted_287 : decode cL_isPrinted 287 = .ok (.ireturn, 1) := by decide +kernel
theorem dL_isBetter_0 : decode cL_isBetter 0 = .ok (.aload_n 0, 1) := by decide +kernel
theorem dL_isBetter_1 : decode cL_isBetter 1 = .ok (.invokestatic 237, 3) := by decide +kernel
theorem dL_isBetter_4 : decode cL_isBetter 4 = .ok (.lstore_n 2, 1) := by decide +kernel
theorem dL_isBetter_5 : decode cL_isBetter 5 = .ok (.aload_n 0, 1) := by decide +kernel
theorem dL_isBetter_6 : decode cL_isBetter 6 = .ok (.invokevirtual 117, 3) := by decide +kernel
theorem dL_isBetter_9 : decode cL_isBetter 9 = .ok (.istore 4, 2) := by decide +kernel
theorem dL_isBetter_11 : decode cL_isBetter 11 = .ok (.aload_n 0, 1) := by decide +kernel
theorem dL_isBetter_12 : decode cL_isBetter 12 = .ok (.iload_n 1, 1) := by decide +kernel
theorem dL_isBetter_13 : decode cL_isBetter 13 = .ok (.iconst 4, 1) := by decide +kernel
theorem dL_isBetter_14 : decode cL_isBetter 14 = .ok (.invokestatic 27, 3) := by decide +kernel
theorem dL_isBetter_17 : decode cL_isBetter 17 = .ok (.invokevirtual 183, 3) := by decide +kernel
theorem dL_isBetter_20 : decode cL_isBetter 20 = .ok (.istore 5, 2) := by decide +kernel
theorem dL_isBetter_22 : decode cL_isBetter 22 = .ok (.aload_n 0, 1) := by decide +kernel
theorem dL_isBetter_23 : decode cL_isBetter 23 = .ok (.invokevirtual 117, 3) := by decide +kernel
theorem dL_isBetter_26 : decode cL_isBetter 26 = .ok (.istore 6, 2) := by decide +kernel
theorem dL_isBetter_28 : decode cL_isBetter 28 = .ok (.iload 6, 2) := by decide +kernel
theorem dL_isBetter_30 : decode cL_isBetter 30 = .ok (.iload 4, 2) := by decide +kernel
theorem dL_isBetter_32 : decode cL_isBetter 32 = .ok (.iload 5, 2) := by decide +kernel
theorem dL_isBetter_34 : decode cL_isBetter 34 = .ok (.isub, 1) := by decide +kernel
theorem dL_isBetter_35 : decode cL_isBetter 35 = .ok (.if_icmp .gt 19, 3) := by decide +kernel
theorem dL_isBetter_38 : decode cL_isBetter 38 = .ok (.aload_n 0, 1) := by decide +kernel
theorem dL_isBetter_39 : decode cL_isBetter 39 = .ok (.invokevirtual 240, 3) := by decide +kernel
theorem dL_isBetter_42 : decode cL_isBetter 42 = .ok (.ifCond .lt 12, 3) := by decide +kernel
theorem dL_isBetter_45 : decode cL_isBetter 45 = .ok (.aload_n 0, 1) := by decide +kernel
theorem dL_isBetter_46 : decode cL_isBetter 46 = .ok (.invokestatic 237, 3) := by decide +kernel
theorem dL_isBetter_49 : decode cL_isBetter 49 = .ok (.lload_n 2, 1) := by decide +kernel
theorem dL_isBetter_50 : decode cL_isBetter 50 = .ok (.lcmp, 1) := by decide +kernel
theorem dL_isBetter_51 : decode cL_isBetter 51 = .ok (.ifCond .eq 5, 3) := by decide +kernel
theorem dL_isBetter_54 : decode cL_isBetter 54 = .ok (.iconst 0, 1) := by decide +kernel
theorem dL_isBetter_55 : decode cL_isBetter 55 = .ok (.ireturn, 1) := by decide +kernel
theorem dL_isBetter_56 : decode cL_isBetter 56 = .ok (.iload_n 1, 1) := by decide +kernel
theorem dL_isBetter_57 : decode cL_isBetter 57 = .ok (.iconst 3, 1) := by decide +kernel
theorem dL_isBetter_58 : decode cL_isBetter 58 = .ok (.ishr, 1) := by decide +kernel
theorem dL_isBetter_59 : decode cL_isBetter 59 = .ok (.aload_n 0, 1) := by decide +kernel
theorem dL_isBetter_60 : decode cL_isBetter 60 = .ok (.iconst 2, 1) := by decide +kernel
theorem dL_isBetter_61 : decode cL_isBetter 61 = .ok (.invokevirtual 111, 3) := by decide +kernel
theorem dL_isBetter_64 : decode cL_isBetter 64 = .ok (.invokestatic 27, 3) := by decide +kernel
theorem dL_isBetter_67 : decode cL_isBetter 67 = .ok (.istore 7, 2) := by decide +kernel
theorem dL_isBetter_69 : decode cL_isBetter 69 = .ok (.iload_n 1, 1) := by decide +kernel
theorem dL_isBetter_70 : decode cL_isBetter 70 = .ok (.iconst 5, 1) := by decide +kernel
theorem dL_isBetter_71 : decode cL_isBetter 71 = .ok (.ishr, 1) := by decide +kernel
theorem dL_isBetter_72 : decode cL_isBetter 72 = .ok (.aload_n 0, 1) := by decide +kernel
theorem dL_isBetter_73 : decode cL_isBetter 73 = .ok (.iload 7, 2) := by decide +kernel
theorem dL_isBetter_75 : decode cL_isBetter 75 = .ok (.invokevirtual 151, 3) := by decide +kernel
theorem dL_isBetter_78 : decode cL_isBetter 78 = .ok (.invokestatic 27, 3) := by decide +kernel
theorem dL_isBetter_81 : decode cL_isBetter 81 = .ok (.istore 8, 2) := by decide +kernel
theorem dL_isBetter_83 : decode cL_isBetter 83 = .ok (.iload_n 1, 1) := by decide +kernel
theorem dL_isBetter_84 : decode cL_isBetter 84 = .ok (.bipush 7, 2) := by decide +kernel
theorem dL_isBetter_86 : decode cL_isBetter 86 = .ok (.ishr, 1) := by decide +kernel
theorem dL_isBetter_87 : decode cL_isBetter 87 = .ok (.aload_n 0, 1) := by decide +kernel
theorem dL_isBetter_88 : decode cL_isBetter 88 = .ok (.iload 7, 2) := by decide +kernel
theorem dL_isBetter_90 : decode cL_isBetter 90 = .ok (.invokevirtual 151, 3) := by decide +kernel
theorem dL_isBetter_93 : decode cL_isBetter 93 = .ok (.invokestatic 27, 3) := by decide +kernel
theorem dL_isBetter_96 : decode cL_isBetter 96 = .ok (.istore 9, 2) := by decide +kernel
theorem dL_isBetter_98 : decode cL_isBetter 98 = .ok (.aload_n 0, 1) := by decide +kernel
theorem dL_isBetter_99 : decode cL_isBetter 99 = .ok (.iload 7, 2) := by decide +kernel
theorem dL_isBetter_101 : decode cL_isBetter 101 = .ok (.iload 8, 2) := by decide +kernel
theorem dL_isBetter_103 : decode cL_isBetter 103 = .ok (.iload 9, 2) := by decide +kernel
theorem dL_isBetter_105 : decode cL_isBetter 105 = .ok (.invokevirtual 173, 3) := by decide +kernel
theorem dL_isBetter_108 : decode cL_isBetter 108 = .ok (.istore 10, 2) := by decide +kernel
theorem dL_isBetter_110 : decode cL_isBetter 110 = .ok (.aload_n 0, 1) := by decide +kernel
theorem dL_isBetter_111 : decode cL_isBetter 111 = .ok (.invokestatic 237, 3) := by decide +kernel
theorem dL_isBetter_114 : decode cL_isBetter 114 = .ok (.lload_n 2, 1) := by decide +kernel
theorem dL_isBetter_115 : decode cL_isBetter 115 = .ok (.lcmp, 1) := by decide +kernel
theorem dL_isBetter_116 : decode cL_isBetter 116 = .ok (.ifCond .ne 42, 3) := by decide +kernel
theorem dL_isBetter_119 : decode cL_isBetter 119 = .ok (.aload_n 0, 1) := by decide +kernel
theorem dL_isBetter_120 : decode cL_isBetter 120 = .ok (.iload 7, 2) := by decide +kernel
theorem dL_isBetter_122 : decode cL_isBetter 122 = .ok (.iload 8, 2) := by decide +kernel
theorem dL_isBetter_124 : decode cL_isBetter 124 = .ok (.iload 9, 2) := by decide +kernel
theorem dL_isBetter_126 : decode cL_isBetter 126 = .ok (.invokevirtual 180, 3) := by decide +kernel
theorem dL_isBetter_129 : decode cL_isBetter 129 = .ok (.iload 10, 2) := by decide +kernel
theorem dL_isBetter_131 : decode cL_isBetter 131 = .ok (.if_icmp .ne 27, 3) := by decide +kernel
theorem dL_isBetter_134 : decode cL_isBetter 134 = .ok (.aload_n 0, 1) := by decide +kernel
theorem dL_isBetter_135 : decode cL_isBetter 135 = .ok (.iload 7, 2) := by decide +kernel
theorem dL_isBetter_137 : decode cL_isBetter 137 = .ok (.iload 8, 2) := by decide +kernel
theorem dL_isBetter_139 : decode cL_isBetter 139 = .ok (.iload 9, 2) := by decide +kernel
theorem dL_isBetter_141 : decode cL_isBetter 141 = .ok (.invokevirtual 180, 3) := by decide +kernel
theorem dL_isBetter_144 : decode cL_isBetter 144 = .ok (.iload 4, 2) := by decide +kernel
theorem dL_isBetter_146 : decode cL_isBetter 146 = .ok (.if_icmp .ne 12, 3) := by decide +kernel
theorem dL_isBetter_149 : decode cL_isBetter 149 = .ok (.aload_n 0, 1) := by decide +kernel
theorem dL_isBetter_150 : decode cL_isBetter 150 = .ok (.invokestatic 237, 3) := by decide +kernel
theorem dL_isBetter_153 : decode cL_isBetter 153 = .ok (.lload_n 2, 1) := by decide +kernel
theorem dL_isBetter_154 : decode cL_isBetter 154 = .ok (.lcmp, 1) := by decide +kernel
theorem dL_isBetter_155 : decode cL_isBetter 155 = .ok (.ifCond .eq 5, 3) := by decide +kernel
theorem dL_isBetter_158 : decode cL_isBetter 158 = .ok (.iconst 0, 1) := by decide +kernel
theorem dL_isBetter_159 : decode cL_isBetter 159 = .ok (.ireturn, 1) := by decide +kernel
theorem dL_isBetter_160 : decode cL_isBetter 160 = .ok (.aload_n 0, 1) := by decide +kernel
theorem dL_isBetter_161 : decode cL_isBetter 161 = .ok (.invokevirtual 240, 3) := by decide +kernel
theorem dL_isBetter_164 : decode cL_isBetter 164 = .ok (.ifCond .lt 23, 3) := by decide +kernel
theorem dL_isBetter_167 : decode cL_isBetter 167 = .ok (.aload_n 0, 1) := by decide +kernel
theorem dL_isBetter_168 : decode cL_isBetter 168 = .ok (.invokevirtual 240, 3) := by decide +kernel
theorem dL_isBetter_171 : decode cL_isBetter 171 = .ok (.ifCond .lt 16, 3) := by decide +kernel
theorem dL_isBetter_174 : decode cL_isBetter 174 = .ok (.aload_n 0, 1) := by decide +kernel
theorem dL_isBetter_175 : decode cL_isBetter 175 = .ok (.invokestatic 237, 3) := by decide +kernel
theorem dL_isBetter_178 : decode cL_isBetter 178 = .ok (.lload_n 2, 1) := by decide +kernel
theorem dL_isBetter_179 : decode cL_isBetter 179 = .ok (.lcmp, 1) := by decide +kernel
theorem dL_isBetter_180 : decode cL_isBetter 180 = .ok (.ifCond .ne 7, 3) := by decide +kernel
theorem dL_isBetter_183 : decode cL_isBetter 183 = .ok (.iconst 1, 1) := by decide +kernel
theorem dL_isBetter_184 : decode cL_isBetter 184 = .ok (.goto 4, 3) := by decide +kernel
theorem dL_isBetter_187 : decode cL_isBetter 187 = .ok (.iconst 0, 1) := by decide +kernel
theorem dL_isBetter_188 : decode cL_isBetter 188 = .ok (.ireturn, 1) := by decide +kernel
theorem dL_law_0 : decode cL_law 0 = .ok (.new 9, 3) := by decide +kernel
theorem dL_law_3 : decode cL_law 3 = .ok (.dup, 1) := by decide +kernel
theorem dL_law_4 : decode cL_law 4 = .ok (.invokespecial 243, 3) := by decide +kernel
theorem dL_law_7 : decode cL_law 7 = .ok (.astore_n 1, 1) := by decide +kernel
theorem dL_law_8 : decode cL_law 8 = .ok (.bipush 6, 2) := by decide +kernel
theorem dL_law_10 : decode cL_law 10 = .ok (.newarray .int, 2) := by decide +kernel
theorem dL_law_12 : decode cL_law 12 = .ok (.astore_n 2, 1) := by decide +kernel
theorem dL_law_13 : decode cL_law 13 = .ok (.aload_n 1, 1) := by decide +kernel
theorem dL_law_14 : decode cL_law 14 = .ok (.invokevirtual 192, 3) := by decide +kernel
theorem dL_law_17 : decode cL_law 17 = .ok (.aload_n 1, 1) := by decide +kernel
theorem dL_law_18 : decode cL_law 18 = .ok (.invokevirtual 244, 3) := by decide +kernel
theorem dL_law_21 : decode cL_law 21 = .ok (.iconst 1, 1) := by decide +kernel
theorem dL_law_22 : decode cL_law 22 = .ok (.if_icmp .ne 18, 3) := by decide +kernel
theorem dL_law_25 : decode cL_law 25 = .ok (.aload_n 1, 1) := by decide +kernel
theorem dL_law_26 : decode cL_law 26 = .ok (.invokevirtual 240, 3) := by decide +kernel
theorem dL_law_29 : decode cL_law 29 = .ok (.ifCond .ne 11, 3) := by decide +kernel
theorem dL_law_32 : decode cL_law 32 = .ok (.aload_n 1, 1) := by decide +kernel
theorem dL_law_33 : decode cL_law 33 = .ok (.iconst 3, 1) := by decide +kernel
theorem dL_law_34 : decode cL_law 34 = .ok (.invokevirtual 111, 3) := by decide +kernel
theorem dL_law_37 : decode cL_law 37 = .ok (.ifCond .eq 5, 3) := by decide +kernel
theorem dL_law_40 : decode cL_law 40 = .ok (.iconst 0, 1) := by decide +kernel
theorem dL_law_41 : decode cL_law 41 = .ok (.ireturn, 1) := by decide +kernel
theorem dL_law_42 : decode cL_law 42 = .ok (.aload_n 0, 1) := by decide +kernel
theorem dL_law_43 : decode cL_law 43 = .ok (.iconst 0, 1) := by decide +kernel
theorem dL_law_44 : decode cL_law 44 = .ok (.invokestatic 247, 3) := by decide +kernel
theorem dL_law_47 : decode cL_law 47 = .ok (.astore_n 3, 1) := by decide +kernel
theorem dL_law_48 : decode cL_law 48 = .ok (.aload_n 1, 1) := by decide +kernel
theorem dL_law_49 : decode cL_law 49 = .ok (.aload_n 2, 1) := by decide +kernel
theorem dL_law_50 : decode cL_law 50 = .ok (.aload_n 3, 1) := by decide +kernel
theorem dL_law_51 : decode cL_law 51 = .ok (.invokestatic 251, 3) := by decide +kernel
theorem dL_law_54 : decode cL_law 54 = .ok (.aload_n 3, 1) := by decide +kernel
theorem dL_law_55 : decode cL_law 55 = .ok (.getfield 31, 3) := by decide +kernel
theorem dL_law_58 : decode cL_law 58 = .ok (.if_icmp .ne 31, 3) := by decide +kernel
theorem dL_law_61 : decode cL_law 61 = .ok (.aload_n 1, 1) := by decide +kernel
theorem dL_law_62 : decode cL_law 62 = .ok (.invokestatic 255, 3) := by decide +kernel
theorem dL_law_65 : decode cL_law 65 = .ok (.ifCond .eq 24, 3) := by decide +kernel
theorem dL_law_68 : decode cL_law 68 = .ok (.aload_n 1, 1) := by decide +kernel
theorem dL_law_69 : decode cL_law 69 = .ok (.bipush 10, 2) := by decide +kernel
theorem dL_law_71 : decode cL_law 71 = .ok (.aload_n 0, 1) := by decide +kernel
theorem dL_law_72 : decode cL_law 72 = .ok (.bipush 32, 2) := by decide +kernel
theorem dL_law_74 : decode cL_law 74 = .ok (.invokestatic 23, 3) := by decide +kernel
theorem dL_law_77 : decode cL_law 77 = .ok (.bipush 40, 2) := by decide +kernel
theorem dL_law_79 : decode cL_law 79 = .ok (.invokestatic 27, 3) := by decide +kernel
theorem dL_law_82 : decode cL_law 82 = .ok (.iadd, 1) := by decide +kernel
theorem dL_law_83 : decode cL_law 83 = .ok (.invokestatic 259, 3) := by decide +kernel
theorem dL_law_86 : decode cL_law 86 = .ok (.ifCond .ne 5, 3) := by decide +kernel
theorem dL_law_89 : decode cL_law 89 = .ok (.iconst 0, 1) := by decide +kernel
theorem dL_law_90 : decode cL_law 90 = .ok (.ireturn, 1) := by decide +kernel
theorem dL_law_91 : decode cL_law 91 = .ok (.aload_n 1, 1) := by decide +kernel
theorem dL_law_92 : decode cL_law 92 = .ok (.invokevirtual 263, 3) := by decide +kernel
theorem dL_law_95 : decode cL_law 95 = .ok (.aload_n 1, 1) := by decide +kernel
theorem dL_law_96 : decode cL_law 96 = .ok (.invokestatic 237, 3) := by decide +kernel
theorem dL_law_99 : decode cL_law 99 = .ok (.lstore 4, 2) := by decide +kernel
theorem dL_law_101 : decode cL_law 101 = .ok (.bipush 10, 2) := by decide +kernel
theorem dL_law_103 : decode cL_law 103 = .ok (.newarray .long, 2) := by decide +kernel
theorem dL_law_105 : decode cL_law 105 = .ok (.astore 6, 2) := by decide +kernel
theorem dL_law_107 : decode cL_law 107 = .ok (.iconst 0, 1) := by decide +kernel
theorem dL_law_108 : decode cL_law 108 = .ok (.istore 7, 2) := by decide +kernel
theorem dL_law_110 : decode cL_law 110 = .ok (.iconst 0, 1) := by decide +kernel
theorem dL_law_111 : decode cL_law 111 = .ok (.istore 8, 2) := by decide +kernel
theorem dL_law_113 : decode cL_law 113 = .ok (.iload 8, 2) := by decide +kernel
theorem dL_law_115 : decode cL_law 115 = .ok (.bipush 28, 2) := by decide +kernel
theorem dL_law_117 : decode cL_law 117 = .ok (.if_icmp .ge 176, 3) := by decide +kernel
theorem dL_law_120 : decode cL_law 120 = .ok (.aload_n 0, 1) := by decide +kernel
theorem dL_law_121 : decode cL_law 121 = .ok (.bipush 12, 2) := by decide +kernel
theorem dL_law_123 : decode cL_law 123 = .ok (.iload 8, 2) := by decide +kernel
theorem dL_law_125 : decode cL_law 125 = .ok (.bipush 20, 2) := by decide +kernel
theorem dL_law_127 : decode cL_law 127 = .ok (.irem, 1) := by decide +kernel
theorem dL_law_128 : decode cL_law 128 = .ok (.iadd, 1) := by decide +kernel
theorem dL_law_129 : decode cL_law 129 = .ok (.invokestatic 23, 3) := by decide +kernel
theorem dL_law_132 : decode cL_law 132 = .ok (.iload 8, 2) := by decide +kernel
theorem dL_law_134 : decode cL_law 134 = .ok (.bipush 20, 2) := by decide +kernel
theorem dL_law_136 : decode cL_law 136 = .ok (.idiv, 1) := by decide +kernel
theorem dL_law_137 : decode cL_law 137 = .ok (.iconst 3, 1) := by decide +kernel
theorem dL_law_138 : decode cL_law 138 = .ok (.imul, 1) := by decide +kernel
theorem dL_law_139 : decode cL_law 139 = .ok (.ishr, 1) := by decide +kernel
theorem dL_law_140 : decode cL_law 140 = .ok (.istore 9, 2) := by decide +kernel
theorem dL_law_142 : decode cL_law 142 = .ok (.aload_n 1, 1) := by decide +kernel
theorem dL_law_143 : decode cL_law 143 = .ok (.invokestatic 237, 3) := by decide +kernel
theorem dL_law_146 : decode cL_law 146 = .ok (.lstore 10, 2) := by decide +kernel
theorem dL_law_148 : decode cL_law 148 = .ok (.aload_n 1, 1) := by decide +kernel
theorem dL_law_149 : decode cL_law 149 = .ok (.aload_n 3, 1) := by decide +kernel
theorem dL_law_150 : decode cL_law 150 = .ok (.iload 9, 2) := by decide +kernel
theorem dL_law_152 : decode cL_law 152 = .ok (.invokestatic 266, 3) := by decide +kernel
theorem dL_law_155 : decode cL_law 155 = .ok (.istore 12, 2) := by decide +kernel
theorem dL_law_157 : decode cL_law 157 = .ok (.iload 12, 2) := by decide +kernel
theorem dL_law_159 : decode cL_law 159 = .ok (.ifCond .lt 18, 3) := by decide +kernel
theorem dL_law_162 : decode cL_law 162 = .ok (.iload 12, 2) := by decide +kernel
theorem dL_law_164 : decode cL_law 164 = .ok (.ifCond .ne 15, 3) := by decide +kernel
theorem dL_law_167 : decode cL_law 167 = .ok (.aload_n 1, 1) := by decide +kernel
theorem dL_law_168 : decode cL_law 168 = .ok (.invokestatic 237, 3) := by decide +kernel
theorem dL_law_171 : decode cL_law 171 = .ok (.lload 10, 2) := by decide +kernel
theorem dL_law_173 : decode cL_law 173 = .ok (.lcmp, 1) := by decide +kernel
theorem dL_law_174 : decode cL_law 174 = .ok (.ifCond .eq 5, 3) := by decide +kernel
theorem dL_law_177 : decode cL_law 177 = .ok (.iconst 0, 1) := by decide +kernel
theorem dL_law_178 : decode cL_law 178 = .ok (.ireturn, 1) := by decide +kernel
theorem dL_law_179 : decode cL_law 179 = .ok (.iload 12, 2) := by decide +kernel
theorem dL_law_181 : decode cL_law 181 = .ok (.ifCond .ne 6, 3) := by decide +kernel
theorem dL_law_184 : decode cL_law 184 = .ok (.goto 103, 3) := by decide +kernel
theorem dL_law_187 : decode cL_law 187 = .ok (.iload 7, 2) := by decide +kernel
theorem dL_law_189 : decode cL_law 189 = .ok (.bipush 10, 2) := by decide +kernel
theorem dL_law_191 : decode cL_law 191 = .ok (.if_icmp .ne 34, 3) := by decide +kernel
theorem dL_law_194 : decode cL_law 194 = .ok (.iconst 1, 1) := by decide +kernel
theorem dL_law_195 : decode cL_law 195 = .ok (.istore 13, 2) := by decide +kernel
theorem dL_law_197 : decode cL_law 197 = .ok (.iload 13, 2) := by decide +kernel
theorem dL_law_199 : decode cL_law 199 = .ok (.bipush 10, 2) := by decide +kernel
theorem dL_law_201 : decode cL_law 201 = .ok (.if_icmp .ge 21, 3) := by decide +kernel
theorem dL_law_204 : decode cL_law 204 = .ok (.aload 6, 2) := by decide +kernel
theorem dL_law_206 : decode cL_law 206 = .ok (.iload 13, 2) := by decide +kernel
theorem dL_law_208 : decode cL_law 208 = .ok (.iconst 1, 1) := by decide +kernel
theorem dL_law_209 : decode cL_law 209 = .ok (.isub, 1) := by decide +kernel
theorem dL_law_210 : decode cL_law 210 = .ok (.aload 6, 2) := by decide +kernel
theorem dL_law_212 : decode cL_law 212 = .ok (.iload 13, 2) := by decide +kernel
theorem dL_law_214 : decode cL_law 214 = .ok (.laload, 1) := by decide +kernel
theorem dL_law_215 : decode cL_law 215 = .ok (.lastore, 1) := by decide +kernel
theorem dL_law_216 : decode cL_law 216 = .ok (.iinc 13 1, 3) := by decide +kernel
theorem dL_law_219 : decode cL_law 219 = .ok (.goto (-22), 3) := by decide +kernel
theorem dL_law_222 : decode cL_law 222 = .ok (.iinc 7 (-1), 3) := by decide +kernel
theorem dL_law_225 : decode cL_law 225 = .ok (.aload 6, 2) := by decide +kernel
theorem dL_law_227 : decode cL_law 227 = .ok (.iload 7, 2) := by decide +kernel
theorem dL_law_229 : decode cL_law 229 = .ok (.iinc 7 1, 3) := by decide +kernel
theorem dL_law_232 : decode cL_law 232 = .ok (.lload 10, 2) := by decide +kernel
theorem dL_law_234 : decode cL_law 234 = .ok (.lastore, 1) := by decide +kernel
theorem dL_law_235 : decode cL_law 235 = .ok (.aload_n 1, 1) := by decide +kernel
theorem dL_law_236 : decode cL_law 236 = .ok (.invokevirtual 244, 3) := by decide +kernel
theorem dL_law_239 : decode cL_law 239 = .ok (.iload 7, 2) := by decide +kernel
theorem dL_law_241 : decode cL_law 241 = .ok (.if_icmp .ne 44, 3) := by decide +kernel
theorem dL_law_244 : decode cL_law 244 = .ok (.iload 8, 2) := by decide +kernel
theorem dL_law_246 : decode cL_law 246 = .ok (.iconst 4, 1) := by decide +kernel
theorem dL_law_247 : decode cL_law 247 = .ok (.irem, 1) := by decide +kernel
theorem dL_law_248 : decode cL_law 248 = .ok (.ifCond .ne 10, 3) := by decide +kernel
theorem dL_law_251 : decode cL_law 251 = .ok (.aload_n 1, 1) := by decide +kernel
theorem dL_law_252 : decode cL_law 252 = .ok (.invokestatic 255, 3) := by decide +kernel
theorem dL_law_255 : decode cL_law 255 = .ok (.ifCond .eq 30, 3) := by decide +kernel
theorem dL_law_258 : decode cL_law 258 = .ok (.iload 8, 2) := by decide +kernel
theorem dL_law_260 : decode cL_law 260 = .ok (.bipush 9, 2) := by decide +kernel
theorem dL_law_262 : decode cL_law 262 = .ok (.irem, 1) := by decide +kernel
theorem dL_law_263 : decode cL_law 263 = .ok (.bipush 8, 2) := by decide +kernel
theorem dL_law_265 : decode cL_law 265 = .ok (.if_icmp .ne 22, 3) := by decide +kernel
theorem dL_law_268 : decode cL_law 268 = .ok (.aload_n 1, 1) := by decide +kernel
theorem dL_law_269 : decode cL_law 269 = .ok (.bipush 10, 2) := by decide +kernel
theorem dL_law_271 : decode cL_law 271 = .ok (.iload 9, 2) := by decide +kernel
theorem dL_law_273 : decode cL_law 273 = .ok (.bipush 60, 2) := by decide +kernel
theorem dL_law_275 : decode cL_law 275 = .ok (.invokestatic 27, 3) := by decide +kernel
theorem dL_law_278 : decode cL_law 278 = .ok (.iadd, 1) := by decide +kernel
theorem dL_law_279 : decode cL_law 279 = .ok (.invokestatic 259, 3) := by decide +kernel
theorem dL_law_282 : decode cL_law 282 = .ok (.ifCond .ne 5, 3) := by decide +kernel
theorem dL_law_285 : decode cL_law 285 = .ok (.iconst 0, 1) := by decide +kernel
theorem dL_law_286 : decode cL_law 286 = .ok (.ireturn, 1) := by decide +kernel
theorem dL_law_287 : decode cL_law 287 = .ok (.iinc 8 1, 3) := by decide +kernel
theorem dL_law_290 : decode cL_law 290 = .ok (.goto (-177), 3) := by decide +kernel
theorem dL_law_293 : decode cL_law 293 = .ok (.iload 7, 2) := by decide +kernel
theorem dL_law_295 : decode cL_law 295 = .ok (.iconst 1, 1) := by decide +kernel
theorem dL_law_296 : decode cL_law 296 = .ok (.isub, 1) := by decide +kernel
theorem dL_law_297 : decode cL_law 297 = .ok (.istore 8, 2) := by decide +kernel
theorem dL_law_299 : decode cL_law 299 = .ok (.iload 8, 2) := by decide +kernel
theorem dL_law_301 : decode cL_law 301 = .ok (.ifCond .lt 33, 3) := by decide +kernel
theorem dL_law_304 : decode cL_law 304 = .ok (.aload_n 1, 1) := by decide +kernel
theorem dL_law_305 : decode cL_law 305 = .ok (.invokevirtual 240, 3) := by decide +kernel
theorem dL_law_308 : decode cL_law 308 = .ok (.iload 8, 2) := by decide +kernel
theorem dL_law_310 : decode cL_law 310 = .ok (.if_icmp .ne 16, 3) := by decide +kernel
theorem dL_law_313 : decode cL_law 313 = .ok (.aload_n 1, 1) := by decide +kernel
theorem dL_law_314 : decode cL_law 314 = .ok (.invokestatic 237, 3) := by decide +kernel
theorem dL_law_317 : decode cL_law 317 = .ok (.aload 6, 2) := by decide +kernel
theorem dL_law_319 : decode cL_law 319 = .ok (.iload 8, 2) := by decide +kernel
theorem dL_law_321 : decode cL_law 321 = .ok (.laload, 1) := by decide +kernel
theorem dL_law_322 : decode cL_law 322 = .ok (.lcmp, 1) := by decide +kernel
theorem dL_law_323 : decode cL_law 323 = .ok (.ifCond .eq 5, 3) := by decide +kernel
theorem dL_law_326 : decode cL_law 326 = .ok (.iconst 0, 1) := by decide +kernel
theorem dL_law_327 : decode cL_law 327 = .ok (.ireturn, 1) := by decide +kernel
theorem dL_law_328 : decode cL_law 328 = .ok (.iinc 8 (-1), 3) := by decide +kernel
theorem dL_law_331 : decode cL_law 331 = .ok (.goto (-32), 3) := by decide +kernel
theorem dL_law_334 : decode cL_law 334 = .ok (.aload_n 1, 1) := by decide +kernel
theorem dL_law_335 : decode cL_law 335 = .ok (.invokevirtual 240, 3) := by decide +kernel
theorem dL_law_338 : decode cL_law 338 = .ok (.iconst (-1), 1) := by decide +kernel
theorem dL_law_339 : decode cL_law 339 = .ok (.if_icmp .ne 16, 3) := by decide +kernel
theorem dL_law_342 : decode cL_law 342 = .ok (.aload_n 1, 1) := by decide +kernel
theorem dL_law_343 : decode cL_law 343 = .ok (.aload_n 0, 1) := by decide +kernel
theorem dL_law_344 : decode cL_law 344 = .ok (.bipush 33, 2) := by decide +kernel
theorem dL_law_346 : decode cL_law 346 = .ok (.invokestatic 23, 3) := by decide +kernel
theorem dL_law_349 : decode cL_law 349 = .ok (.invokestatic 270, 3) := by decide +kernel
theorem dL_law_352 : decode cL_law 352 = .ok (.ifCond .ne 5, 3) := by decide +kernel
theorem dL_law_355 : decode cL_law 355 = .ok (.iconst 0, 1) := by decide +kernel
theorem dL_law_356 : decode cL_law 356 = .ok (.ireturn, 1) := by decide +kernel
theorem dL_law_357 : decode cL_law 357 = .ok (.aload_n 1, 1) := by decide +kernel
theorem dL_law_358 : decode cL_law 358 = .ok (.invokestatic 255, 3) := by decide +kernel
theorem dL_law_361 : decode cL_law 361 = .ok (.ifCond .eq 31, 3) := by decide +kernel
theorem dL_law_364 : decode cL_law 364 = .ok (.aload_n 1, 1) := by decide +kernel
theorem dL_law_365 : decode cL_law 365 = .ok (.invokevirtual 273, 3) := by decide +kernel
theorem dL_law_368 : decode cL_law 368 = .ok (.ifCond .eq 24, 3) := by decide +kernel
theorem dL_law_371 : decode cL_law 371 = .ok (.aload_n 1, 1) := by decide +kernel
theorem dL_law_372 : decode cL_law 372 = .ok (.invokestatic 237, 3) := by decide +kernel
theorem dL_law_375 : decode cL_law 375 = .ok (.lload 4, 2) := by decide +kernel
theorem dL_law_377 : decode cL_law 377 = .ok (.lcmp, 1) := by decide +kernel
theorem dL_law_378 : decode cL_law 378 = .ok (.ifCond .ne 14, 3) := by decide +kernel
theorem dL_law_381 : decode cL_law 381 = .ok (.aload_n 1, 1) := by decide +kernel
theorem dL_law_382 : decode cL_law 382 = .ok (.invokevirtual 244, 3) := by decide +kernel
theorem dL_law_385 : decode cL_law 385 = .ok (.ifCond .ne 7, 3) := by decide +kernel
theorem dL_law_388 : decode cL_law 388 = .ok (.iconst 1, 1) := by decide +kernel
theorem dL_law_389 : decode cL_law 389 = .ok (.goto 4, 3) := by decide +kernel
theorem dL_law_392 : decode cL_law 392 = .ok (.iconst 0, 1) := by decide +kernel
theorem dL_law_393 : decode cL_law 393 = .ok (.ireturn, 1) := by decide +kernel
