theorem dX10_distance_68 : decode cX10_distance 68 = .ok (.iconst 1, 1) := by decide +kernel
theorem dX10_distance_69 : decode cX10_distance 69 = .ok (.if_icmp .ne 44, 3) := by decide +kernel
theorem dX10_distance_72 : decode cX10_distance 72 = .ok (.iload 6, 2) := by decide +kernel
theorem dX10_distance_74 : decode cX10_distance 74 = .ok (.aload_n 0, 1) := by decide +kernel
theorem dX10_distance_75 : decode cX10_distance 75 = .ok (.iload 7, 2) := by decide +kernel
theorem dX10_distance_77 : decode cX10_distance 77 = .ok (.iload 8, 2) := by decide +kernel
theorem dX10_distance_79 : decode cX10_distance 79 = .ok (.invokevirtual 278, 3) := by decide +kernel
theorem dX10_distance_82 : decode cX10_distance 82 = .ok (.ifCond .ne 14, 3) := by decide +kernel
theorem dX10_distance_85 : decode cX10_distance 85 = .ok (.aload_n 0, 1) := by decide +kernel
theorem dX10_distance_86 : decode cX10_distance 86 = .ok (.iload 8, 2) := by decide +kernel
theorem dX10_distance_88 : decode cX10_distance 88 = .ok (.iload 7, 2) := by decide +kernel
theorem dX10_distance_90 : decode cX10_distance 90 = .ok (.invokevirtual 278, 3) := by decide +kernel
theorem dX10_distance_93 : decode cX10_distance 93 = .ok (.ifCond .eq 10, 3) := by decide +kernel
theorem dX10_distance_96 : decode cX10_distance 96 = .ok (.iconst 1, 1) := by decide +kernel
theorem dX10_distance_97 : decode cX10_distance 97 = .ok (.iload 8, 2) := by decide +kernel
theorem dX10_distance_99 : decode cX10_distance 99 = .ok (.ishl, 1) := by decide +kernel
theorem dX10_distance_100 : decode cX10_distance 100 = .ok (.goto 4, 3) := by decide +kernel
theorem dX10_distance_103 : decode cX10_distance 103 = .ok (.iconst 0, 1) := by decide +kernel
theorem dX10_distance_104 : decode cX10_distance 104 = .ok (.ior, 1) := by decide +kernel
theorem dX10_distance_105 : decode cX10_distance 105 = .ok (.istore 6, 2) := by decide +kernel
theorem dX10_distance_107 : decode cX10_distance 107 = .ok (.iinc 8 1, 3) := by decide +kernel
theorem dX10_distance_110 : decode cX10_distance 110 = .ok (.goto (-58), 3) := by decide +kernel
theorem dX10_distance_113 : decode cX10_distance 113 = .ok (.iinc 7 1, 3) := by decide +kernel
theorem dX10_distance_116 : decode cX10_distance 116 = .ok (.goto (-76), 3) := by decide +kernel
theorem dX10_distance_119 : decode cX10_distance 119 = .ok (.iload 6, 2) := by decide +kernel
theorem dX10_distance_121 : decode cX10_distance 121 = .ok (.iload_n 3, 1) := by decide +kernel
theorem dX10_distance_122 : decode cX10_distance 122 = .ok (.iconst (-1), 1) := by decide +kernel
theorem dX10_distance_123 : decode cX10_distance 123 = .ok (.ixor, 1) := by decide +kernel
theorem dX10_distance_124 : decode cX10_distance 124 = .ok (.iand, 1) := by decide +kernel
theorem dX10_distance_125 : decode cX10_distance 125 = .ok (.istore 4, 2) := by decide +kernel
theorem dX10_distance_127 : decode cX10_distance 127 = .ok (.iload_n 3, 1) := by decide +kernel
theorem dX10_distance_128 : decode cX10_distance 128 = .ok (.iload 6, 2) := by decide +kernel
theorem dX10_distance_130 : decode cX10_distance 130 = .ok (.ior, 1) := by decide +kernel
theorem dX10_distance_131 : decode cX10_distance 131 = .ok (.istore_n 3, 1) := by decide +kernel
theorem dX10_distance_132 : decode cX10_distance 132 = .ok (.iinc 5 1, 3) := by decide +kernel
theorem dX10_distance_135 : decode cX10_distance 135 = .ok (.goto (-114), 3) := by decide +kernel
theorem dX10_distance_138 : decode cX10_distance 138 = .ok (.iload_n 3, 1) := by decide +kernel
theorem dX10_distance_139 : decode cX10_distance 139 = .ok (.iload_n 2, 1) := by decide +kernel
theorem dX10_distance_140 : decode cX10_distance 140 = .ok (.ishr, 1) := by decide +kernel
theorem dX10_distance_141 : decode cX10_distance 141 = .ok (.iconst 1, 1) := by decide +kernel
theorem dX10_distance_142 : decode cX10_distance 142 = .ok (.iand, 1) := by decide +kernel
theorem dX10_distance_143 : decode cX10_distance 143 = .ok (.iconst 1, 1) := by decide +kernel
theorem dX10_distance_144 : decode cX10_distance 144 = .ok (.if_icmp .ne 8, 3) := by decide +kernel
theorem dX10_distance_147 : decode cX10_distance 147 = .ok (.iload 5, 2) := by decide +kernel
theorem dX10_distance_149 : decode cX10_distance 149 = .ok (.goto 4, 3) := by decide +kernel
theorem dX10_distance_152 : decode cX10_distance 152 = .ok (.iconst (-1), 1) := by decide +kernel
theorem dX10_distance_153 : decode cX10_distance 153 = .ok (.ireturn, 1) := by decide +kernel
theorem dX10_beginWays_0 : decode cX10_beginWays 0 = .ok (.iconst 0, 1) := by decide +kernel
theorem dX10_beginWays_1 : decode cX10_beginWays 1 = .ok (.istore_n 2, 1) := by decide +kernel
theorem dX10_beginWays_2 : decode cX10_beginWays 2 = .ok (.iload_n 2, 1) := by decide +kernel
theorem dX10_beginWays_3 : decode cX10_beginWays 3 = .ok (.bipush 16, 2) := by decide +kernel
theorem dX10_beginWays_5 : decode cX10_beginWays 5 = .ok (.if_icmp .ge 25, 3) := by decide +kernel
theorem dX10_beginWays_8 : decode cX10_beginWays 8 = .ok (.aload_n 0, 1) := by decide +kernel
theorem dX10_beginWays_9 : decode cX10_beginWays 9 = .ok (.getfield 54, 3) := by decide +kernel
theorem dX10_beginWays_12 : decode cX10_beginWays 12 = .ok (.iload_n 2, 1) := by decide +kernel
theorem dX10_beginWays_13 : decode cX10_beginWays 13 = .ok (.iload_n 2, 1) := by decide +kernel
theorem dX10_beginWays_14 : decode cX10_beginWays 14 = .ok (.iload_n 1, 1) := by decide +kernel
theorem dX10_beginWays_15 : decode cX10_beginWays 15 = .ok (.if_icmp .ne 7, 3) := by decide +kernel
theorem dX10_beginWays_18 : decode cX10_beginWays 18 = .ok (.iconst 1, 1) := by decide +kernel
theorem dX10_beginWays_19 : decode cX10_beginWays 19 = .ok (.goto 4, 3) := by decide +kernel
theorem dX10_beginWays_22 : decode cX10_beginWays 22 = .ok (.iconst 0, 1) := by decide +kernel
theorem dX10_beginWays_23 : decode cX10_beginWays 23 = .ok (.iastore, 1) := by decide +kernel
theorem dX10_beginWays_24 : decode cX10_beginWays 24 = .ok (.iinc 2 1, 3) := by decide +kernel
theorem dX10_beginWays_27 : decode cX10_beginWays 27 = .ok (.goto (-25), 3) := by decide +kernel
theorem dX10_beginWays_30 : decode cX10_beginWays 30 = .ok (.return_, 1) := by decide +kernel
theorem dX10_stepUp_0 : decode cX10_stepUp 0 = .ok (.iconst 0, 1) := by decide +kernel
theorem dX10_stepUp_1 : decode cX10_stepUp 1 = .ok (.istore_n 1, 1) := by decide +kernel
theorem dX10_stepUp_2 : decode cX10_stepUp 2 = .ok (.iload_n 1, 1) := by decide +kernel
theorem dX10_stepUp_3 : decode cX10_stepUp 3 = .ok (.bipush 16, 2) := by decide +kernel
theorem dX10_stepUp_5 : decode cX10_stepUp 5 = .ok (.if_icmp .ge 16, 3) := by decide +kernel
theorem dX10_stepUp_8 : decode cX10_stepUp 8 = .ok (.aload_n 0, 1) := by decide +kernel
theorem dX10_stepUp_9 : decode cX10_stepUp 9 = .ok (.getfield 57, 3) := by decide +kernel
theorem dX10_stepUp_12 : decode cX10_stepUp 12 = .ok (.iload_n 1, 1) := by decide +kernel
theorem dX10_stepUp_13 : decode cX10_stepUp 13 = .ok (.iconst 0, 1) := by decide +kernel
theorem dX10_stepUp_14 : decode cX10_stepUp 14 = .ok (.iastore, 1) := by decide +kernel
theorem dX10_stepUp_15 : decode cX10_stepUp 15 = .ok (.iinc 1 1, 3) := by decide +kernel
theorem dX10_stepUp_18 : decode cX10_stepUp 18 = .ok (.goto (-16), 3) := by decide +kernel
theorem dX10_stepUp_21 : decode cX10_stepUp 21 = .ok (.iconst 0, 1) := by decide +kernel
theorem dX10_stepUp_22 : decode cX10_stepUp 22 = .ok (.istore_n 1, 1) := by decide +kernel
theorem dX10_stepUp_23 : decode cX10_stepUp 23 = .ok (.iload_n 1, 1) := by decide +kernel
theorem dX10_stepUp_24 : decode cX10_stepUp 24 = .ok (.aload_n 0, 1) := by decide +kernel
theorem dX10_stepUp_25 : decode cX10_stepUp 25 = .ok (.invokevirtual 121, 3) := by decide +kernel
theorem dX10_stepUp_28 : decode cX10_stepUp 28 = .ok (.if_icmp .ge 60, 3) := by decide +kernel
theorem dX10_stepUp_31 : decode cX10_stepUp 31 = .ok (.aload_n 0, 1) := by decide +kernel
theorem dX10_stepUp_32 : decode cX10_stepUp 32 = .ok (.iload_n 1, 1) := by decide +kernel
theorem dX10_stepUp_33 : decode cX10_stepUp 33 = .ok (.invokevirtual 117, 3) := by decide +kernel
theorem dX10_stepUp_36 : decode cX10_stepUp 36 = .ok (.istore_n 2, 1) := by decide +kernel
theorem dX10_stepUp_37 : decode cX10_stepUp 37 = .ok (.iload_n 2, 1) := by decide +kernel
theorem dX10_stepUp_38 : decode cX10_stepUp 38 = .ok (.iconst (-1), 1) := by decide +kernel
theorem dX10_stepUp_39 : decode cX10_stepUp 39 = .ok (.if_icmp .eq 43, 3) := by decide +kernel
theorem dX10_stepUp_42 : decode cX10_stepUp 42 = .ok (.aload_n 0, 1) := by decide +kernel
theorem dX10_stepUp_43 : decode cX10_stepUp 43 = .ok (.getfield 57, 3) := by decide +kernel
theorem dX10_stepUp_46 : decode cX10_stepUp 46 = .ok (.aload_n 0, 1) := by decide +kernel
theorem dX10_stepUp_47 : decode cX10_stepUp 47 = .ok (.iload_n 2, 1) := by decide +kernel
theorem dX10_stepUp_48 : decode cX10_stepUp 48 = .ok (.iconst 0, 1) := by decide +kernel
theorem dX10_stepUp_49 : decode cX10_stepUp 49 = .ok (.invokevirtual 102, 3) := by decide +kernel
theorem dX10_stepUp_52 : decode cX10_stepUp 52 = .ok (.dup2, 1) := by decide +kernel
theorem dX10_stepUp_53 : decode cX10_stepUp 53 = .ok (.iaload, 1) := by decide +kernel
theorem dX10_stepUp_54 : decode cX10_stepUp 54 = .ok (.aload_n 0, 1) := by decide +kernel
theorem dX10_stepUp_55 : decode cX10_stepUp 55 = .ok (.getfield 54, 3) := by decide +kernel
theorem dX10_stepUp_58 : decode cX10_stepUp 58 = .ok (.iload_n 1, 1) := by decide +kernel
theorem dX10_stepUp_59 : decode cX10_stepUp 59 = .ok (.iaload, 1) := by decide +kernel
theorem dX10_stepUp_60 : decode cX10_stepUp 60 = .ok (.iadd, 1) := by decide +kernel
theorem dX10_stepUp_61 : decode cX10_stepUp 61 = .ok (.iastore, 1) := by decide +kernel
theorem dX10_stepUp_62 : decode cX10_stepUp 62 = .ok (.aload_n 0, 1) := by decide +kernel
theorem dX10_stepUp_63 : decode cX10_stepUp 63 = .ok (.getfield 57, 3) := by decide +kernel
theorem dX10_stepUp_66 : decode cX10_stepUp 66 = .ok (.aload_n 0, 1) := by decide +kernel
theorem dX10_stepUp_67 : decode cX10_stepUp 67 = .ok (.iload_n 2, 1) := by decide +kernel
theorem dX10_stepUp_68 : decode cX10_stepUp 68 = .ok (.iconst 1, 1) := by decide +kernel
theorem dX10_stepUp_69 : decode cX10_stepUp 69 = .ok (.invokevirtual 102, 3) := by decide +kernel
theorem dX10_stepUp_72 : decode cX10_stepUp 72 = .ok (.dup2, 1) := by decide +kernel
theorem dX10_stepUp_73 : decode cX10_stepUp 73 = .ok (.iaload, 1) := by decide +kernel
theorem dX10_stepUp_74 : decode cX10_stepUp 74 = .ok (.aload_n 0, 1) := by decide +kernel
theorem dX10_stepUp_75 : decode cX10_stepUp 75 = .ok (.getfield 54, 3) := by decide +kernel
theorem dX10_stepUp_78 : decode cX10_stepUp 78 = .ok (.iload_n 1, 1) := by decide +kernel
theorem dX10_stepUp_79 : decode cX10_stepUp 79 = .ok (.iaload, 1) := by decide +kernel
theorem dX10_stepUp_80 : decode cX10_stepUp 80 = .ok (.iadd, 1) := by decide +kernel
theorem dX10_stepUp_81 : decode cX10_stepUp 81 = .ok (.iastore, 1) := by decide +kernel
theorem dX10_stepUp_82 : decode cX10_stepUp 82 = .ok (.iinc 1 1, 3) := by decide +kernel
theorem dX10_stepUp_85 : decode cX10_stepUp 85 = .ok (.goto (-62), 3) := by decide +kernel
theorem dX10_stepUp_88 : decode cX10_stepUp 88 = .ok (.iconst 0, 1) := by decide +kernel
theorem dX10_stepUp_89 : decode cX10_stepUp 89 = .ok (.istore_n 1, 1) := by decide +kernel
theorem dX10_stepUp_90 : decode cX10_stepUp 90 = .ok (.iload_n 1, 1) := by decide +kernel
theorem dX10_stepUp_91 : decode cX10_stepUp 91 = .ok (.bipush 16, 2) := by decide +kernel
theorem dX10_stepUp_93 : decode cX10_stepUp 93 = .ok (.if_icmp .ge 21, 3) := by decide +kernel
theorem dX10_stepUp_96 : decode cX10_stepUp 96 = .ok (.aload_n 0, 1) := by decide +kernel
theorem dX10_stepUp_97 : decode cX10_stepUp 97 = .ok (.getfield 54, 3) := by decide +kernel
theorem dX10_stepUp_100 : decode cX10_stepUp 100 = .ok (.iload_n 1, 1) := by decide +kernel
theorem dX10_stepUp_101 : decode cX10_stepUp 101 = .ok (.aload_n 0, 1) := by decide +kernel
theorem dX10_stepUp_102 : decode cX10_stepUp 102 = .ok (.getfield 57, 3) := by decide +kernel
theorem dX10_stepUp_105 : decode cX10_stepUp 105 = .ok (.iload_n 1, 1) := by decide +kernel
theorem dX10_stepUp_106 : decode cX10_stepUp 106 = .ok (.iaload, 1) := by decide +kernel
theorem dX10_stepUp_107 : decode cX10_stepUp 107 = .ok (.iastore, 1) := by decide +kernel
theorem dX10_stepUp_108 : decode cX10_stepUp 108 = .ok (.iinc 1 1, 3) := by decide +kernel
theorem dX10_stepUp_111 : decode cX10_stepUp 111 = .ok (.goto (-21), 3) := by decide +kernel
theorem dX10_stepUp_114 : decode cX10_stepUp 114 = .ok (.return_, 1) := by decide +kernel
theorem dX10_linesTo_0 : decode cX10_linesTo 0 = .ok (.aload_n 0, 1) := by decide +kernel
theorem dX10_linesTo_1 : decode cX10_linesTo 1 = .ok (.iload_n 1, 1) := by decide +kernel
theorem dX10_linesTo_2 : decode cX10_linesTo 2 = .ok (.iload_n 2, 1) := by decide +kernel
theorem dX10_linesTo_3 : decode cX10_linesTo 3 = .ok (.invokevirtual 272, 3) := by decide +kernel
theorem dX10_linesTo_6 : decode cX10_linesTo 6 = .ok (.ifCond .ne 5, 3) := by decide +kernel
theorem dX10_linesTo_9 : decode cX10_linesTo 9 = .ok (.iconst 0, 1) := by decide +kernel
theorem dX10_linesTo_10 : decode cX10_linesTo 10 = .ok (.ireturn, 1) := by decide +kernel
theorem dX10_linesTo_11 : decode cX10_linesTo 11 = .ok (.aload_n 0, 1) := by decide +kernel
theorem dX10_linesTo_12 : decode cX10_linesTo 12 = .ok (.iload_n 1, 1) := by decide +kernel
theorem dX10_linesTo_13 : decode cX10_linesTo 13 = .ok (.invokevirtual 281, 3) := by decide +kernel
theorem dX10_linesTo_16 : decode cX10_linesTo 16 = .ok (.aload_n 0, 1) := by decide +kernel
theorem dX10_linesTo_17 : decode cX10_linesTo 17 = .ok (.getfield 54, 3) := by decide +kernel
theorem dX10_linesTo_20 : decode cX10_linesTo 20 = .ok (.iload_n 2, 1) := by decide +kernel
theorem dX10_linesTo_21 : decode cX10_linesTo 21 = .ok (.iaload, 1) := by decide +kernel
theorem dX10_linesTo_22 : decode cX10_linesTo 22 = .ok (.istore_n 3, 1) := by decide +kernel
theorem dX10_linesTo_23 : decode cX10_linesTo 23 = .ok (.iconst 0, 1) := by decide +kernel
theorem dX10_linesTo_24 : decode cX10_linesTo 24 = .ok (.istore 4, 2) := by decide +kernel
theorem dX10_linesTo_26 : decode cX10_linesTo 26 = .ok (.iload 4, 2) := by decide +kernel
theorem dX10_linesTo_28 : decode cX10_linesTo 28 = .ok (.bipush 16, 2) := by decide +kernel
theorem dX10_linesTo_30 : decode cX10_linesTo 30 = .ok (.if_icmp .ge 22, 3) := by decide +kernel
theorem dX10_linesTo_33 : decode cX10_linesTo 33 = .ok (.aload_n 0, 1) := by decide +kernel
theorem dX10_linesTo_34 : decode cX10_linesTo 34 = .ok (.invokevirtual 284, 3) := by decide +kernel
theorem dX10_linesTo_37 : decode cX10_linesTo 37 = .ok (.iload_n 3, 1) := by decide +kernel
theorem dX10_linesTo_38 : decode cX10_linesTo 38 = .ok (.aload_n 0, 1) := by decide +kernel
theorem dX10_linesTo_39 : decode cX10_linesTo 39 = .ok (.getfield 54, 3) := by decide +kernel
theorem dX10_linesTo_42 : decode cX10_linesTo 42 = .ok (.iload_n 2, 1) := by decide +kernel
theorem dX10_linesTo_43 : decode cX10_linesTo 43 = .ok (.iaload, 1) := by decide +kernel
theorem dX10_linesTo_44 : decode cX10_linesTo 44 = .ok (.iadd, 1) := by decide +kernel
theorem dX10_linesTo_45 : decode cX10_linesTo 45 = .ok (.istore_n 3, 1) := by decide +kernel
theorem dX10_linesTo_46 : decode cX10_linesTo 46 = .ok (.iinc 4 1, 3) := by decide +kernel
theorem dX10_linesTo_49 : decode cX10_linesTo 49 = .ok (.goto (-23), 3) := by decide +kernel
theorem dX10_linesTo_52 : decode cX10_linesTo 52 = .ok (.iload_n 3, 1) := by decide +kernel
theorem dX10_linesTo_53 : decode cX10_linesTo 53 = .ok (.ireturn, 1) := by decide +kernel
theorem dX10_nearestAncestor_0 : decode cX10_nearestAncestor 0 = .ok (.aload_n 0, 1) := by decide +kernel
theorem dX10_nearestAncestor_1 : decode cX10_nearestAncestor 1 = .ok (.iload_n 1, 1) := by decide +kernel
theorem dX10_nearestAncestor_2 : decode cX10_nearestAncestor 2 = .ok (.iload_n 2, 1) := by decide +kernel
theorem dX10_nearestAncestor_3 : decode cX10_nearestAncestor 3 = .ok (.invokevirtual 272, 3) := by decide +kernel
theorem dX10_nearestAncestor_6 : decode cX10_nearestAncestor 6 = .ok (.ifCond .ne 5, 3) := by decide +kernel
theorem dX10_nearestAncestor_9 : decode cX10_nearestAncestor 9 = .ok (.iconst 0, 1) := by decide +kernel
theorem dX10_nearestAncestor_10 : decode cX10_nearestAncestor 10 = .ok (.ireturn, 1) := by decide +kernel
theorem dX10_nearestAncestor_11 : decode cX10_nearestAncestor 11 = .ok (.aload_n 0, 1) := by decide +kernel
theorem dX10_nearestAncestor_12 : decode cX10_nearestAncestor 12 = .ok (.invokevirtual 138, 3) := by decide +kernel
theorem dX10_nearestAncestor_15 : decode cX10_nearestAncestor 15 = .ok (.aload_n 0, 1) := by decide +kernel
theorem dX10_nearestAncestor_16 : decode cX10_nearestAncestor 16 = .ok (.iload_n 1, 1) := by decide +kernel
theorem dX10_nearestAncestor_17 : decode cX10_nearestAncestor 17 = .ok (.invokevirtual 254, 3) := by decide +kernel
theorem dX10_nearestAncestor_20 : decode cX10_nearestAncestor 20 = .ok (.iconst 1, 1) := by decide +kernel
theorem dX10_nearestAncestor_21 : decode cX10_nearestAncestor 21 = .ok (.iload_n 1, 1) := by decide +kernel
theorem dX10_nearestAncestor_22 : decode cX10_nearestAncestor 22 = .ok (.ishl, 1) := by decide +kernel
theorem dX10_nearestAncestor_23 : decode cX10_nearestAncestor 23 = .ok (.ior, 1) := by decide +kernel
theorem dX10_nearestAncestor_24 : decode cX10_nearestAncestor 24 = .ok (.aload_n 0, 1) := by decide +kernel
theorem dX10_nearestAncestor_25 : decode cX10_nearestAncestor 25 = .ok (.iload_n 2, 1) := by decide +kernel
theorem dX10_nearestAncestor_26 : decode cX10_nearestAncestor 26 = .ok (.invokevirtual 254, 3) := by decide +kernel
theorem dX10_nearestAncestor_29 : decode cX10_nearestAncestor 29 = .ok (.iconst 1, 1) := by decide +kernel
theorem dX10_nearestAncestor_30 : decode cX10_nearestAncestor 30 = .ok (.iload_n 2, 1) := by decide +kernel
theorem dX10_nearestAncestor_31 : decode cX10_nearestAncestor 31 = .ok (.ishl, 1) := by decide +kernel
theorem dX10_nearestAncestor_32 : decode cX10_nearestAncestor 32 = .ok (.ior, 1) := by decide +kernel
theorem dX10_nearestAncestor_33 : decode cX10_nearestAncestor 33 = .ok (.iand, 1) := by decide +kernel
theorem dX10_nearestAncestor_34 : decode cX10_nearestAncestor 34 = .ok (.istore_n 3, 1) := by decide +kernel
theorem dX10_nearestAncestor_35 : decode cX10_nearestAncestor 35 = .ok (.iconst (-1), 1) := by decide +kernel
theorem dX10_nearestAncestor_36 : decode cX10_nearestAncestor 36 = .ok (.istore 4, 2) := by decide +kernel
theorem dX10_nearestAncestor_38 : decode cX10_nearestAncestor 38 = .ok (.iconst 0, 1) := by decide +kernel
theorem dX10_nearestAncestor_39 : decode cX10_nearestAncestor 39 = .ok (.istore 5, 2) := by decide +kernel
theorem dX10_nearestAncestor_41 : decode cX10_nearestAncestor 41 = .ok (.iload 5, 2) := by decide +kernel
theorem dX10_nearestAncestor_43 : decode cX10_nearestAncestor 43 = .ok (.aload_n 0, 1) := by decide +kernel
theorem dX10_nearestAncestor_44 : decode cX10_nearestAncestor 44 = .ok (.invokevirtual 121, 3) := by decide +kernel
theorem dX10_nearestAncestor_47 : decode cX10_nearestAncestor 47 = .ok (.if_icmp .ge 51, 3) := by decide +kernel
theorem dX10_nearestAncestor_50 : decode cX10_nearestAncestor 50 = .ok (.iload_n 3, 1) := by decide +kernel
theorem dX10_nearestAncestor_51 : decode cX10_nearestAncestor 51 = .ok (.iload 5, 2) := by decide +kernel
theorem dX10_nearestAncestor_53 : decode cX10_nearestAncestor 53 = .ok (.ishr, 1) := by decide +kernel
theorem dX10_nearestAncestor_54 : decode cX10_nearestAncestor 54 = .ok (.iconst 1, 1) := by decide +kernel
theorem dX10_nearestAncestor_55 : decode cX10_nearestAncestor 55 = .ok (.iand, 1) := by decide +kernel
theorem dX10_nearestAncestor_56 : decode cX10_nearestAncestor 56 = .ok (.iconst 1, 1) := by decide +kernel
theorem dX10_nearestAncestor_57 : decode cX10_nearestAncestor 57 = .ok (.if_icmp .ne 31, 3) := by decide +kernel
theorem dX10_nearestAncestor_60 : decode cX10_nearestAncestor 60 = .ok (.iload 4, 2) := by decide +kernel
theorem dX10_nearestAncestor_62 : decode cX10_nearestAncestor 62 = .ok (.iconst (-1), 1) := by decide +kernel
theorem dX10_nearestAncestor_63 : decode cX10_nearestAncestor 63 = .ok (.if_icmp .eq 20, 3) := by decide +kernel
theorem dX10_nearestAncestor_66 : decode cX10_nearestAncestor 66 = .ok (.aload_n 0, 1) := by decide +kernel
theorem dX10_nearestAncestor_67 : decode cX10_nearestAncestor 67 = .ok (.getfield 25, 3) := by decide +kernel
theorem dX10_nearestAncestor_70 : decode cX10_nearestAncestor 70 = .ok (.iload 5, 2) := by decide +kernel
theorem dX10_nearestAncestor_72 : decode cX10_nearestAncestor 72 = .ok (.iaload, 1) := by decide +kernel
theorem dX10_nearestAncestor_73 : decode cX10_nearestAncestor 73 = .ok (.aload_n 0, 1) := by decide +kernel
theorem dX10_nearestAncestor_74 : decode cX10_nearestAncestor 74 = .ok (.getfield 25, 3) := by decide +kernel
theorem dX10_nearestAncestor_77 : decode cX10_nearestAncestor 77 = .ok (.iload 4, 2) := by decide +kernel
theorem dX10_nearestAncestor_79 : decode cX10_nearestAncestor 79 = .ok (.iaload, 1) := by decide +kernel
theorem dX10_nearestAncestor_80 : decode cX10_nearestAncestor 80 = .ok (.if_icmp .le 8, 3) := by decide +kernel
theorem dX10_nearestAncestor_83 : decode cX10_nearestAncestor 83 = .ok (.iload 5, 2) := by decide +kernel
theorem dX10_nearestAncestor_85 : decode cX10_nearestAncestor 85 = .ok (.goto 5, 3) := by decide +kernel
theorem dX10_nearestAncestor_88 : decode cX10_nearestAncestor 88 = .ok (.iload 4, 2) := by decide +kernel
theorem dX10_nearestAncestor_90 : decode cX10_nearestAncestor 90 = .ok (.istore 4, 2) := by decide +kernel
theorem dX10_nearestAncestor_92 : decode cX10_nearestAncestor 92 = .ok (.iinc 5 1, 3) := by decide +kernel
theorem dX10_nearestAncestor_95 : decode cX10_nearestAncestor 95 = .ok (.goto (-54), 3) := by decide +kernel
theorem dX10_nearestAncestor_98 : decode cX10_nearestAncestor 98 = .ok (.iload 4, 2) := by decide +kernel
theorem dX10_nearestAncestor_100 : decode cX10_nearestAncestor 100 = .ok (.ireturn, 1) := by decide +kernel
theorem dX10_collapse_0 : decode cX10_collapse 0 = .ok (.aload_n 0, 1) := by decide +kernel
theorem dX10_collapse_1 : decode cX10_collapse 1 = .ok (.aload_n 0, 1) := by decide +kernel
theorem dX10_collapse_2 : decode cX10_collapse 2 = .ok (.iload_n 1, 1) := by decide +kernel
theorem dX10_collapse_3 : decode cX10_collapse 3 = .ok (.invokevirtual 234, 3) := by decide +kernel
theorem dX10_collapse_6 : decode cX10_collapse 6 = .ok (.ifCond .ne 7, 3) := by decide +kernel
theorem dX10_collapse_9 : decode cX10_collapse 9 = .ok (.iconst 1, 1) := by decide +kernel
theorem dX10_collapse_10 : decode cX10_collapse 10 = .ok (.goto 20, 3) := by decide +kernel
theorem dX10_collapse_13 : decode cX10_collapse 13 = .ok (.iload_n 2, 1) := by decide +kernel
theorem dX10_collapse_14 : decode cX10_collapse 14 = .ok (.i2l, 1) := by decide +kernel
theorem dX10_collapse_15 : decode cX10_collapse 15 = .ok (.lconst 1, 1) := by decide +kernel
theorem dX10_collapse_16 : decode cX10_collapse 16 = .ok (.ldc2_w 287, 3) := by decide +kernel
theorem dX10_collapse_19 : decode cX10_collapse 19 = .ok (.invokestatic 106, 3) := by decide +kernel
theorem dX10_collapse_22 : decode cX10_collapse 22 = .ok (.ifCond .eq 7, 3) := by decide +kernel
theorem dX10_collapse_25 : decode cX10_collapse 25 = .ok (.iconst 0, 1) := by decide +kernel
theorem dX10_collapse_26 : decode cX10_collapse 26 = .ok (.goto 4, 3) := by decide +kernel
theorem dX10_collapse_29 : decode cX10_collapse 29 = .ok (.iconst 2, 1) := by decide +kernel
theorem dX10_collapse_30 : decode cX10_collapse 30 = .ok (.putfield 95, 3) := by decide +kernel
theorem dX10_collapse_33 : decode cX10_collapse 33 = .ok (.aload_n 0, 1) := by decide +kernel
theorem dX10_collapse_34 : decode cX10_collapse 34 = .ok (.getfield 95, 3) := by decide +kernel
theorem dX10_collapse_37 : decode cX10_collapse 37 = .ok (.ifCond .eq 5, 3) := by decide +kernel
theorem dX10_collapse_40 : decode cX10_collapse 40 = .ok (.iconst 0, 1) := by decide +kernel
theorem dX10_collapse_41 : decode cX10_collapse 41 = .ok (.ireturn, 1) := by decide +kernel
theorem dX10_collapse_42 : decode cX10_collapse 42 = .ok (.aload_n 0, 1) := by decide +kernel
theorem dX10_collapse_43 : decode cX10_collapse 43 = .ok (.iload_n 1, 1) := by decide +kernel
theorem dX10_collapse_44 : decode cX10_collapse 44 = .ok (.invokevirtual 281, 3) := by decide +kernel
theorem dX10_collapse_47 : decode cX10_collapse 47 = .ok (.iconst 0, 1) := by decide +kernel
theorem dX10_collapse_48 : decode cX10_collapse 48 = .ok (.istore_n 3, 1) := by decide +kernel
theorem dX10_collapse_49 : decode cX10_collapse 49 = .ok (.iload_n 3, 1) := by decide +kernel
theorem dX10_collapse_50 : decode cX10_collapse 50 = .ok (.iload_n 2, 1) := by decide +kernel
theorem dX10_collapse_51 : decode cX10_collapse 51 = .ok (.if_icmp .ge 13, 3) := by decide +kernel
theorem dX10_collapse_54 : decode cX10_collapse 54 = .ok (.aload_n 0, 1) := by decide +kernel
theorem dX10_collapse_55 : decode cX10_collapse 55 = .ok (.invokevirtual 284, 3) := by decide +kernel
theorem dX10_collapse_58 : decode cX10_collapse 58 = .ok (.iinc 3 1, 3) := by decide +kernel
theorem dX10_collapse_61 : decode cX10_collapse 61 = .ok (.goto (-12), 3) := by decide +kernel
theorem dX10_collapse_64 : decode cX10_collapse 64 = .ok (.iconst 0, 1) := by decide +kernel
theorem dX10_collapse_65 : decode cX10_collapse 65 = .ok (.istore_n 3, 1) := by decide +kernel
theorem dX10_collapse_66 : decode cX10_collapse 66 = .ok (.iconst 0, 1) := by decide +kernel
theorem dX10_collapse_67 : decode cX10_collapse 67 = .ok (.istore 4, 2) := by decide +kernel
theorem dX10_collapse_69 : decode cX10_collapse 69 = .ok (.iload 4, 2) := by decide +kernel
theorem dX10_collapse_71 : decode cX10_collapse 71 = .ok (.bipush 16, 2) := by decide +kernel
theorem dX10_collapse_73 : decode cX10_collapse 73 = .ok (.if_icmp .ge 35, 3) := by decide +kernel
theorem dX10_collapse_76 : decode cX10_collapse 76 = .ok (.iload_n 3, 1) := by decide +kernel
theorem dX10_collapse_77 : decode cX10_collapse 77 = .ok (.aload_n 0, 1) := by decide +kernel
theorem dX10_collapse_78 : decode cX10_collapse 78 = .ok (.getfield 54, 3) := by decide +kernel
theorem dX10_collapse_81 : decode cX10_collapse 81 = .ok (.iload 4, 2) := by decide +kernel
theorem dX10_collapse_83 : decode cX10_collapse 83 = .ok (.iaload, 1) := by decide +kernel
theorem dX10_collapse_84 : decode cX10_collapse 84 = .ok (.ifCond .le 15, 3) := by decide +kernel
theorem dX10_collapse_87 : decode cX10_collapse 87 = .ok (.aload_n 0, 1) := by decide +kernel
theorem dX10_collapse_88 : decode cX10_collapse 88 = .ok (.getfield 54, 3) := by decide +kernel
theorem dX10_collapse_91 : decode cX10_collapse 91 = .ok (.iload 4, 2) := by decide +kernel
theorem dX10_collapse_93 : decode cX10_collapse 93 = .ok (.iaload, 1) := by decide +kernel
theorem dX10_collapse_94 : decode cX10_collapse 94 = .ok (.iconst 1, 1) := by decide +kernel
theorem dX10_collapse_95 : decode cX10_collapse 95 = .ok (.isub, 1) := by decide +kernel
theorem dX10_collapse_96 : decode cX10_collapse 96 = .ok (.goto 4, 3) := by decide +kernel
theorem dX10_collapse_99 : decode cX10_collapse 99 = .ok (.iconst 0, 1) := by decide +kernel
theorem dX10_collapse_100 : decode cX10_collapse 100 = .ok (.iadd, 1) := by decide +kernel
theorem dX10_collapse_101 : decode cX10_collapse 101 = .ok (.istore_n 3, 1) := by decide +kernel
theorem dX10_collapse_102 : decode cX10_collapse 102 = .ok (.iinc 4 1, 3) := by decide +kernel
theorem dX10_collapse_105 : decode cX10_collapse 105 = .ok (.goto (-36), 3) := by decide +kernel
theorem dX10_collapse_108 : decode cX10_collapse 108 = .ok (.iload_n 3, 1) := by decide +kernel
theorem dX10_collapse_109 : decode cX10_collapse 109 = .ok (.ireturn, 1) := by decide +kernel
theorem dX10_isRow_0 : decode cX10_isRow 0 = .ok (.iload_n 1, 1) := by decide +kernel
theorem dX10_isRow_1 : decode cX10_isRow 1 = .ok (.i2l, 1) := by decide +kernel
theorem dX10_isRow_2 : decode cX10_isRow 2 = .ok (.lconst 0, 1) := by decide +kernel
theorem dX10_isRow_3 : decode cX10_isRow 3 = .ok (.aload_n 0, 1) := by decide +kernel
theorem dX10_isRow_4 : decode cX10_isRow 4 = .ok (.getfield 132, 3) := by decide +kernel
theorem dX10_isRow_7 : decode cX10_isRow 7 = .ok (.i2l, 1) := by decide +kernel
theorem dX10_isRow_8 : decode cX10_isRow 8 = .ok (.lconst 1, 1) := by decide +kernel
theorem dX10_isRow_9 : decode cX10_isRow 9 = .ok (.lsub, 1) := by decide +kernel
theorem dX10_isRow_10 : decode cX10_isRow 10 = .ok (.invokestatic 106, 3) := by decide +kernel
theorem dX10_isRow_13 : decode cX10_isRow 13 = .ok (.ireturn, 1) := by decide +kernel
theorem dX10_isPlace_0 : decode cX10_isPlace 0 = .ok (.aload_n 0, 1) := by decide +kernel
theorem dX10_isPlace_1 : decode cX10_isPlace 1 = .ok (.iload_n 1, 1) := by decide +kernel
theorem dX10_isPlace_2 : decode cX10_isPlace 2 = .ok (.invokevirtual 289, 3) := by decide +kernel
theorem dX10_isPlace_5 : decode cX10_isPlace 5 = .ok (.ifCond .eq 25, 3) := by decide +kernel
theorem dX10_isPlace_8 : decode cX10_isPlace 8 = .ok (.iload_n 2, 1) := by decide +kernel
theorem dX10_isPlace_9 : decode cX10_isPlace 9 = .ok (.i2l, 1) := by decide +kernel
theorem dX10_isPlace_10 : decode cX10_isPlace 10 = .ok (.lconst 0, 1) := by decide +kernel
theorem dX10_isPlace_11 : decode cX10_isPlace 11 = .ok (.aload_n 0, 1) := by decide +kernel
theorem dX10_isPlace_12 : decode cX10_isPlace 12 = .ok (.getfield 32, 3) := by decide +kernel
theorem dX10_isPlace_15 : decode cX10_isPlace 15 = .ok (.iload_n 1, 1) := by decide +kernel
theorem dX10_isPlace_16 : decode cX10_isPlace 16 = .ok (.iaload, 1) := by decide +kernel
theorem dX10_isPlace_17 : decode cX10_isPlace 17 = .ok (.i2l, 1) := by decide +kernel
theorem dX10_isPlace_18 : decode cX10_isPlace 18 = .ok (.lconst 1, 1) := by decide +kernel
theorem dX10_isPlace_19 : decode cX10_isPlace 19 = .ok (.lsub, 1) := by decide +kernel
theorem dX10_isPlace_20 : decode cX10_isPlace 20 = .ok (.invokestatic 106, 3) := by decide +kernel
theorem dX10_isPlace_23 : decode cX10_isPlace 23 = .ok (.ifCond .eq 7, 3) := by decide +kernel
theorem dX10_isPlace_26 : decode cX10_isPlace 26 = .ok (.iconst 1, 1) := by decide +kernel
theorem dX10_isPlace_27 : decode cX10_isPlace 27 = .ok (.goto 4, 3) := by decide +kernel
theorem dX10_isPlace_30 : decode cX10_isPlace 30 = .ok (.iconst 0, 1) := by decide +kernel
theorem dX10_isPlace_31 : decode cX10_isPlace 31 = .ok (.ireturn, 1) := by decide +kernel
theorem dX10_boxes_0 : decode cX10_boxes 0 = .ok (.aload_n 0, 1) := by decide +kernel
theorem dX10_boxes_1 : decode cX10_boxes 1 = .ok (.iconst 0, 1) := by decide +kernel
theorem dX10_boxes_2 : decode cX10_boxes 2 = .ok (.putfield 95, 3) := by decide +kernel
theorem dX10_boxes_5 : decode cX10_boxes 5 = .ok (.aload_n 0, 1) := by decide +kernel
theorem dX10_boxes_6 : decode cX10_boxes 6 = .ok (.invokevirtual 190, 3) := by decide +kernel
theorem dX10_boxes_9 : decode cX10_boxes 9 = .ok (.aload_n 0, 1) := by decide +kernel
theorem dX10_boxes_10 : decode cX10_boxes 10 = .ok (.iload_n 1, 1) := by decide +kernel
theorem dX10_boxes_11 : decode cX10_boxes 11 = .ok (.invokevirtual 289, 3) := by decide +kernel
theorem dX10_boxes_14 : decode cX10_boxes 14 = .ok (.ifCond .eq 12, 3) := by decide +kernel
theorem dX10_boxes_17 : decode cX10_boxes 17 = .ok (.aload_n 0, 1) := by decide +kernel
theorem dX10_boxes_18 : decode cX10_boxes 18 = .ok (.getfield 32, 3) := by decide +kernel
theorem dX10_boxes_21 : decode cX10_boxes 21 = .ok (.iload_n 1, 1) := by decide +kernel
theorem dX10_boxes_22 : decode cX10_boxes 22 = .ok (.iaload, 1) := by decide +kernel
theorem dX10_boxes_23 : decode cX10_boxes 23 = .ok (.goto 8, 3) := by decide +kernel
theorem dX10_boxes_26 : decode cX10_boxes 26 = .ok (.aload_n 0, 1) := by decide +kernel
theorem dX10_boxes_27 : decode cX10_boxes 27 = .ok (.iconst 1, 1) := by decide +kernel
theorem dX10_boxes_28 : decode cX10_boxes 28 = .ok (.invokevirtual 240, 3) := by decide +kernel
theorem dX10_boxes_31 : decode cX10_boxes 31 = .ok (.ireturn, 1) := by decide +kernel
theorem dX10_box_0 : decode cX10_box 0 = .ok (.aload_n 0, 1) := by decide +kernel
theorem dX10_box_1 : decode cX10_box 1 = .ok (.iconst 0, 1) := by decide +kernel
theorem dX10_box_2 : decode cX10_box 2 = .ok (.putfield 95, 3) := by decide +kernel
theorem dX10_box_5 : decode cX10_box 5 = .ok (.aload_n 0, 1) := by decide +kernel
theorem dX10_box_6 : decode cX10_box 6 = .ok (.invokevirtual 215, 3) := by decide +kernel
theorem dX10_box_9 : decode cX10_box 9 = .ok (.aload_n 0, 1) := by decide +kernel
theorem dX10_box_10 : decode cX10_box 10 = .ok (.iload_n 1, 1) := by decide +kernel
theorem dX10_box_11 : decode cX10_box 11 = .ok (.iload_n 2, 1) := by decide +kernel
theorem dX10_box_12 : decode cX10_box 12 = .ok (.invokevirtual 292, 3) := by decide +kernel
theorem dX10_box_15 : decode cX10_box 15 = .ok (.ifCond .eq 15, 3) := by decide +kernel
theorem dX10_box_18 : decode cX10_box 18 = .ok (.iload_n 3, 1) := by decide +kernel
theorem dX10_box_19 : decode cX10_box 19 = .ok (.i2l, 1) := by decide +kernel
theorem dX10_box_20 : decode cX10_box 20 = .ok (.lconst 0, 1) := by decide +kernel
theorem dX10_box_21 : decode cX10_box 21 = .ok (.ldc2_w 295, 3) := by decide +kernel
theorem dX10_box_24 : decode cX10_box 24 = .ok (.invokestatic 106, 3) := by decide +kernel
theorem dX10_box_27 : decode cX10_box 27 = .ok (.ifCond .ne 9, 3) := by decide +kernel
theorem dX10_box_30 : decode cX10_box 30 = .ok (.aload_n 0, 1) := by decide +kernel
theorem dX10_box_31 : decode cX10_box 31 = .ok (.iconst 1, 1) := by decide +kernel
theorem dX10_box_32 : decode cX10_box 32 = .ok (.invokevirtual 240, 3) := by decide +kernel
theorem dX10_box_35 : decode cX10_box 35 = .ok (.ireturn, 1) := by decide +kernel
theorem dX10_box_36 : decode cX10_box 36 = .ok (.aload_n 0, 1) := by decide +kernel
theorem dX10_box_37 : decode cX10_box 37 = .ok (.iload_n 1, 1) := by decide +kernel
theorem dX10_box_38 : decode cX10_box 38 = .ok (.iload_n 2, 1) := by decide +kernel
theorem dX10_box_39 : decode cX10_box 39 = .ok (.invokevirtual 153, 3) := by decide +kernel
theorem dX10_box_42 : decode cX10_box 42 = .ok (.istore 4, 2) := by decide +kernel
theorem dX10_box_44 : decode cX10_box 44 = .ok (.iload_n 3, 1) := by decide +kernel
theorem dX10_box_45 : decode cX10_box 45 = .ok (.tableswitch 59 0 2 #[27, 34, 51], 27) := by decide +kernel
theorem dX10_box_72 : decode cX10_box 72 = .ok (.aload_n 0, 1) := by decide +kernel
theorem dX10_box_73 : decode cX10_box 73 = .ok (.iload 4, 2) := by decide +kernel
theorem dX10_box_75 : decode cX10_box 75 = .ok (.invokevirtual 178, 3) := by decide +kernel
theorem dX10_box_78 : decode cX10_box 78 = .ok (.ireturn, 1) := by decide +kernel
theorem dX10_box_79 : decode cX10_box 79 = .ok (.iload 4, 2) := by decide +kernel
theorem dX10_box_81 : decode cX10_box 81 = .ok (.bipush 16, 2) := by decide +kernel
theorem dX10_box_83 : decode cX10_box 83 = .ok (.if_icmp .ge 7, 3) := by decide +kernel
theorem dX10_box_86 : decode cX10_box 86 = .ok (.iconst (-1), 1) := by decide +kernel
theorem dX10_box_87 : decode cX10_box 87 = .ok (.goto 8, 3) := by decide +kernel
theorem dX10_box_90 : decode cX10_box 90 = .ok (.iload 4, 2) := by decide +kernel
theorem dX10_box_92 : decode cX10_box 92 = .ok (.bipush 16, 2) := by decide +kernel
theorem dX10_box_94 : decode cX10_box 94 = .ok (.isub, 1) := by decide +kernel
theorem dX10_box_95 : decode cX10_box 95 = .ok (.ireturn, 1) := by decide +kernel
theorem dX10_box_96 : decode cX10_box 96 = .ok (.aload_n 0, 1) := by decide +kernel
theorem dX10_box_97 : decode cX10_box 97 = .ok (.getfield 45, 3) := by decide +kernel
theorem dX10_box_100 : decode cX10_box 100 = .ok (.iload 4, 2) := by decide +kernel
theorem dX10_box_102 : decode cX10_box 102 = .ok (.iaload, 1) := by decide +kernel
theorem dX10_box_103 : decode cX10_box 103 = .ok (.ireturn, 1) := by decide +kernel
theorem dX10_box_104 : decode cX10_box 104 = .ok (.aload_n 0, 1) := by decide +kernel
theorem dX10_box_105 : decode cX10_box 105 = .ok (.iload 4, 2) := by decide +kernel
theorem dX10_box_107 : decode cX10_box 107 = .ok (.invokevirtual 181, 3) := by decide +kernel
theorem dX10_box_110 : decode cX10_box 110 = .ok (.ireturn, 1) := by decide +kernel
theorem dX10_place_0 : decode cX10_place 0 = .ok (.aload_n 0, 1) := by decide +kernel
theorem dX10_place_1 : decode cX10_place 1 = .ok (.iconst 0, 1) := by decide +kernel
theorem dX10_place_2 : decode cX10_place 2 = .ok (.putfield 95, 3) := by decide +kernel
theorem dX10_place_5 : decode cX10_place 5 = .ok (.aload_n 0, 1) := by decide +kernel
theorem dX10_place_6 : decode cX10_place 6 = .ok (.iload_n 1, 1) := by decide +kernel
theorem dX10_place_7 : decode cX10_place 7 = .ok (.invokevirtual 234, 3) := by decide +kernel
theorem dX10_place_10 : decode cX10_place 10 = .ok (.ifCond .eq 11, 3) := by decide +kernel
theorem dX10_place_13 : decode cX10_place 13 = .ok (.aload_n 0, 1) := by decide +kernel
theorem dX10_place_14 : decode cX10_place 14 = .ok (.iload_n 1, 1) := by decide +kernel
theorem dX10_place_15 : decode cX10_place 15 = .ok (.invokevirtual 147, 3) := by decide +kernel
theorem dX10_place_18 : decode cX10_place 18 = .ok (.goto 8, 3) := by decide +kernel
theorem dX10_place_21 : decode cX10_place 21 = .ok (.aload_n 0, 1) := by decide +kernel
theorem dX10_place_22 : decode cX10_place 22 = .ok (.iconst 1, 1) := by decide +kernel
theorem dX10_place_23 : decode cX10_place 23 = .ok (.invokevirtual 240, 3) := by decide +kernel
theorem dX10_place_26 : decode cX10_place 26 = .ok (.ireturn, 1) := by decide +kernel
theorem dX10_crossings_0 : decode cX10_crossings 0 = .ok (.aload_n 0, 1) := by decide +kernel
theorem dX10_crossings_1 : decode cX10_crossings 1 = .ok (.iconst 0, 1) := by decide +kernel
theorem dX10_crossings_2 : decode cX10_crossings 2 = .ok (.putfield 95, 3) := by decide +kernel
theorem dX10_crossings_5 : decode cX10_crossings 5 = .ok (.aload_n 0, 1) := by decide +kernel
theorem dX10_crossings_6 : decode cX10_crossings 6 = .ok (.invokevirtual 190, 3) := by decide +kernel
theorem dX10_crossings_9 : decode cX10_crossings 9 = .ok (.aload_n 0, 1) := by decide +kernel
theorem dX10_crossings_10 : decode cX10_crossings 10 = .ok (.invokevirtual 297, 3) := by decide +kernel
theorem dX10_crossings_13 : decode cX10_crossings 13 = .ok (.ireturn, 1) := by decide +kernel
theorem dX10_crossingsOf_0 : decode cX10_crossingsOf 0 = .ok (.aload_n 0, 1) := by decide +kernel
theorem dX10_crossingsOf_1 : decode cX10_crossingsOf 1 = .ok (.iconst 0, 1) := by decide +kernel
theorem dX10_crossingsOf_2 : decode cX10_crossingsOf 2 = .ok (.putfield 95, 3) := by decide +kernel
theorem dX10_crossingsOf_5 : decode cX10_crossingsOf 5 = .ok (.aload_n 0, 1) := by decide +kernel
theorem dX10_crossingsOf_6 : decode cX10_crossingsOf 6 = .ok (.invokevirtual 190, 3) := by decide +kernel
theorem dX10_crossingsOf_9 : decode cX10_crossingsOf 9 = .ok (.aload_n 0, 1) := by decide +kernel
theorem dX10_crossingsOf_10 : decode cX10_crossingsOf 10 = .ok (.iload_n 1, 1) := by decide +kernel
theorem dX10_crossingsOf_11 : decode cX10_crossingsOf 11 = .ok (.invokevirtual 289, 3) := by decide +kernel
theorem dX10_crossingsOf_14 : decode cX10_crossingsOf 14 = .ok (.ifCond .ne 9, 3) := by decide +kernel
theorem dX10_crossingsOf_17 : decode cX10_crossingsOf 17 = .ok (.aload_n 0, 1) := by decide +kernel
theorem dX10_crossingsOf_18 : decode cX10_crossingsOf 18 = .ok (.iconst 1, 1) := by decide +kernel
theorem dX10_crossingsOf_19 : decode cX10_crossingsOf 19 = .ok (.invokevirtual 240, 3) := by decide +kernel
theorem dX10_crossingsOf_22 : decode cX10_crossingsOf 22 = .ok (.ireturn, 1) := by decide +kernel
theorem dX10_crossingsOf_23 : decode cX10_crossingsOf 23 = .ok (.iload_n 2, 1) := by decide +kernel
theorem dX10_crossingsOf_24 : decode cX10_crossingsOf 24 = .ok (.ifCond .eq 11, 3) := by decide +kernel
theorem dX10_crossingsOf_27 : decode cX10_crossingsOf 27 = .ok (.aload_n 0, 1) := by decide +kernel
theorem dX10_crossingsOf_28 : decode cX10_crossingsOf 28 = .ok (.iload_n 1, 1) := by decide +kernel
theorem dX10_crossingsOf_29 : decode cX10_crossingsOf 29 = .ok (.invokevirtual 175, 3) := by decide +kernel
theorem dX10_crossingsOf_32 : decode cX10_crossingsOf 32 = .ok (.goto 8, 3) := by decide +kernel
theorem dX10_crossingsOf_35 : decode cX10_crossingsOf 35 = .ok (.aload_n 0, 1) := by decide +kernel
theorem dX10_crossingsOf_36 : decode cX10_crossingsOf 36 = .ok (.iload_n 1, 1) := by decide +kernel
theorem dX10_crossingsOf_37 : decode cX10_crossingsOf 37 = .ok (.invokevirtual 172, 3) := by decide +kernel
theorem dX10_crossingsOf_40 : decode cX10_crossingsOf 40 = .ok (.ireturn, 1) := by decide +kernel
theorem dX10_crossingsIf_0 : decode cX10_crossingsIf 0 = .ok (.aload_n 0, 1) := by decide +kernel
theorem dX10_crossingsIf_1 : decode cX10_crossingsIf 1 = .ok (.iconst 0, 1) := by decide +kernel
theorem dX10_crossingsIf_2 : decode cX10_crossingsIf 2 = .ok (.putfield 95, 3) := by decide +kernel
theorem dX10_crossingsIf_5 : decode cX10_crossingsIf 5 = .ok (.aload_n 0, 1) := by decide +kernel
theorem dX10_crossingsIf_6 : decode cX10_crossingsIf 6 = .ok (.invokevirtual 190, 3) := by decide +kernel
theorem dX10_crossingsIf_9 : decode cX10_crossingsIf 9 = .ok (.aload_n 0, 1) := by decide +kernel
theorem dX10_crossingsIf_10 : decode cX10_crossingsIf 10 = .ok (.iload_n 1, 1) := by decide +kernel
theorem dX10_crossingsIf_11 : decode cX10_crossingsIf 11 = .ok (.iload_n 2, 1) := by decide +kernel
theorem dX10_crossingsIf_12 : decode cX10_crossingsIf 12 = .ok (.invokevirtual 292, 3) := by decide +kernel
theorem dX10_crossingsIf_15 : decode cX10_crossingsIf 15 = .ok (.ifCond .eq 12, 3) := by decide +kernel
theorem dX10_crossingsIf_18 : decode cX10_crossingsIf 18 = .ok (.aload_n 0, 1) := by decide +kernel
theorem dX10_crossingsIf_19 : decode cX10_crossingsIf 19 = .ok (.iload_n 1, 1) := by decide +kernel
theorem dX10_crossingsIf_20 : decode cX10_crossingsIf 20 = .ok (.iload_n 3, 1) := by decide +kernel
theorem dX10_crossingsIf_21 : decode cX10_crossingsIf 21 = .ok (.invokevirtual 292, 3) := by decide +kernel
theorem dX10_crossingsIf_24 : decode cX10_crossingsIf 24 = .ok (.ifCond .ne 9, 3) := by decide +kernel
theorem dX10_crossingsIf_27 : decode cX10_crossingsIf 27 = .ok (.aload_n 0, 1) := by decide +kernel
theorem dX10_crossingsIf_28 : decode cX10_crossingsIf 28 = .ok (.iconst 1, 1) := by decide +kernel
theorem dX10_crossingsIf_29 : decode cX10_crossingsIf 29 = .ok (.invokevirtual 240, 3) := by decide +kernel
theorem dX10_crossingsIf_32 : decode cX10_crossingsIf 32 = .ok (.ireturn, 1) := by decide +kernel
theorem dX10_crossingsIf_33 : decode cX10_crossingsIf 33 = .ok (.aload_n 0, 1) := by decide +kernel
theorem dX10_crossingsIf_34 : decode cX10_crossingsIf 34 = .ok (.iload_n 1, 1) := by decide +kernel
theorem dX10_crossingsIf_35 : decode cX10_crossingsIf 35 = .ok (.iload_n 2, 1) := by decide +kernel
theorem dX10_crossingsIf_36 : decode cX10_crossingsIf 36 = .ok (.iload_n 3, 1) := by decide +kernel
theorem dX10_crossingsIf_37 : decode cX10_crossingsIf 37 = .ok (.invokevirtual 300, 3) := by decide +kernel
theorem dX10_crossingsIf_40 : decode cX10_crossingsIf 40 = .ok (.aload_n 0, 1) := by decide +kernel
theorem dX10_crossingsIf_41 : decode cX10_crossingsIf 41 = .ok (.invokevirtual 297, 3) := by decide +kernel
theorem dX10_crossingsIf_44 : decode cX10_crossingsIf 44 = .ok (.istore 4, 2) := by decide +kernel
theorem dX10_crossingsIf_46 : decode cX10_crossingsIf 46 = .ok (.aload_n 0, 1) := by decide +kernel
theorem dX10_crossingsIf_47 : decode cX10_crossingsIf 47 = .ok (.iload_n 1, 1) := by decide +kernel
theorem dX10_crossingsIf_48 : decode cX10_crossingsIf 48 = .ok (.iload_n 2, 1) := by decide +kernel
theorem dX10_crossingsIf_49 : decode cX10_crossingsIf 49 = .ok (.iload_n 3, 1) := by decide +kernel
theorem dX10_crossingsIf_50 : decode cX10_crossingsIf 50 = .ok (.invokevirtual 300, 3) := by decide +kernel
theorem dX10_crossingsIf_53 : decode cX10_crossingsIf 53 = .ok (.iload 4, 2) := by decide +kernel
theorem dX10_crossingsIf_55 : decode cX10_crossingsIf 55 = .ok (.ireturn, 1) := by decide +kernel
theorem dX10_width_0 : decode cX10_width 0 = .ok (.aload_n 0, 1) := by decide +kernel
theorem dX10_width_1 : decode cX10_width 1 = .ok (.iconst 0, 1) := by decide +kernel
theorem dX10_width_2 : decode cX10_width 2 = .ok (.putfield 95, 3) := by decide +kernel
theorem dX10_width_5 : decode cX10_width 5 = .ok (.aload_n 0, 1) := by decide +kernel
theorem dX10_width_6 : decode cX10_width 6 = .ok (.invokevirtual 304, 3) := by decide +kernel
theorem dX10_width_9 : decode cX10_width 9 = .ok (.ireturn, 1) := by decide +kernel
theorem dX10_isWidth_0 : decode cX10_isWidth 0 = .ok (.iload_n 0, 1) := by decide +kernel
theorem dX10_isWidth_1 : decode cX10_isWidth 1 = .ok (.i2l, 1) := by decide +kernel
theorem dX10_isWidth_2 : decode cX10_isWidth 2 = .ok (.ldc2_w 307, 3) := by decide +kernel
theorem dX10_isWidth_5 : decode cX10_isWidth 5 = .ok (.ldc2_w 309, 3) := by decide +kernel
theorem dX10_isWidth_8 : decode cX10_isWidth 8 = .ok (.invokestatic 106, 3) := by decide +kernel
theorem dX10_isWidth_11 : decode cX10_isWidth 11 = .ok (.ireturn, 1) := by decide +kernel
theorem dX10_format_0 : decode cX10_format 0 = .ok (.aload_n 0, 1) := by decide +kernel
theorem dX10_format_1 : decode cX10_format 1 = .ok (.iconst 0, 1) := by decide +kernel
theorem dX10_format_2 : decode cX10_format 2 = .ok (.putfield 95, 3) := by decide +kernel
theorem dX10_format_5 : decode cX10_format 5 = .ok (.aload_n 0, 1) := by decide +kernel
theorem dX10_format_6 : decode cX10_format 6 = .ok (.invokevirtual 215, 3) := by decide +kernel
theorem dX10_format_9 : decode cX10_format 9 = .ok (.iload_n 1, 1) := by decide +kernel
theorem dX10_format_10 : decode cX10_format 10 = .ok (.i2l, 1) := by decide +kernel
theorem dX10_format_11 : decode cX10_format 11 = .ok (.lconst 0, 1) := by decide +kernel
theorem dX10_format_12 : decode cX10_format 12 = .ok (.ldc2_w 295, 3) := by decide +kernel
theorem dX10_format_15 : decode cX10_format 15 = .ok (.aload_n 0, 1) := by decide +kernel
theorem dX10_format_16 : decode cX10_format 16 = .ok (.getfield 132, 3) := by decide +kernel
theorem dX10_format_19 : decode cX10_format 19 = .ok (.i2l, 1) := by decide +kernel
theorem dX10_format_20 : decode cX10_format 20 = .ok (.lmul, 1) := by decide +kernel
theorem dX10_format_21 : decode cX10_format 21 = .ok (.lconst 1, 1) := by decide +kernel
theorem dX10_format_22 : decode cX10_format 22 = .ok (.lsub, 1) := by decide +kernel
theorem dX10_format_23 : decode cX10_format 23 = .ok (.invokestatic 106, 3) := by decide +kernel
theorem dX10_format_26 : decode cX10_format 26 = .ok (.ifCond .eq 7, 3) := by decide +kernel
theorem dX10_format_29 : decode cX10_format 29 = .ok (.iload_n 2, 1) := by decide +kernel
theorem dX10_format_30 : decode cX10_format 30 = .ok (.ifCond .ge 9, 3) := by decide +kernel
theorem dX10_format_33 : decode cX10_format 33 = .ok (.aload_n 0, 1) := by decide +kernel
theorem dX10_format_34 : decode cX10_format 34 = .ok (.iconst 1, 1) := by decide +kernel
theorem dX10_format_35 : decode cX10_format 35 = .ok (.invokevirtual 240, 3) := by decide +kernel
theorem dX10_format_38 : decode cX10_format 38 = .ok (.ireturn, 1) := by decide +kernel
theorem dX10_format_39 : decode cX10_format 39 = .ok (.iload_n 3, 1) := by decide +kernel
theorem dX10_format_40 : decode cX10_format 40 = .ok (.invokestatic 311, 3) := by decide +kernel
theorem dX10_format_43 : decode cX10_format 43 = .ok (.ifCond .ne 9, 3) := by decide +kernel
theorem dX10_format_46 : decode cX10_format 46 = .ok (.aload_n 0, 1) := by decide +kernel
theorem dX10_format_47 : decode cX10_format 47 = .ok (.iconst 2, 1) := by decide +kernel
theorem dX10_format_48 : decode cX10_format 48 = .ok (.invokevirtual 240, 3) := by decide +kernel
theorem dX10_format_51 : decode cX10_format 51 = .ok (.ireturn, 1) := by decide +kernel
theorem dX10_format_52 : decode cX10_format 52 = .ok (.aload_n 0, 1) := by decide +kernel
theorem dX10_format_53 : decode cX10_format 53 = .ok (.iload_n 1, 1) := by decide +kernel
theorem dX10_format_54 : decode cX10_format 54 = .ok (.invokevirtual 218, 3) := by decide +kernel
theorem dX10_format_57 : decode cX10_format 57 = .ok (.iload_n 3, 1) := by decide +kernel
theorem dX10_format_58 : decode cX10_format 58 = .ok (.i2l, 1) := by decide +kernel
theorem dX10_format_59 : decode cX10_format 59 = .ok (.iload_n 2, 1) := by decide +kernel
theorem dX10_format_60 : decode cX10_format 60 = .ok (.i2l, 1) := by decide +kernel
theorem dX10_format_61 : decode cX10_format 61 = .ok (.lmul, 1) := by decide +kernel
theorem dX10_format_62 : decode cX10_format 62 = .ok (.lstore 4, 2) := by decide +kernel
theorem dX10_format_64 : decode cX10_format 64 = .ok (.aload_n 0, 1) := by decide +kernel
theorem dX10_format_65 : decode cX10_format 65 = .ok (.lconst 0, 1) := by decide +kernel
theorem dX10_format_66 : decode cX10_format 66 = .ok (.iload_n 3, 1) := by decide +kernel
theorem dX10_format_67 : decode cX10_format 67 = .ok (.i2l, 1) := by decide +kernel
theorem dX10_format_68 : decode cX10_format 68 = .ok (.aload_n 0, 1) := by decide +kernel
theorem dX10_format_69 : decode cX10_format 69 = .ok (.getfield 196, 3) := by decide +kernel
theorem dX10_format_72 : decode cX10_format 72 = .ok (.i2l, 1) := by decide +kernel
theorem dX10_format_73 : decode cX10_format 73 = .ok (.lload 4, 2) := by decide +kernel
theorem dX10_format_75 : decode cX10_format 75 = .ok (.lsub, 1) := by decide +kernel
theorem dX10_format_76 : decode cX10_format 76 = .ok (.invokestatic 314, 3) := by decide +kernel
theorem dX10_format_79 : decode cX10_format 79 = .ok (.invokestatic 317, 3) := by decide +kernel
theorem dX10_format_82 : decode cX10_format 82 = .ok (.l2i, 1) := by decide +kernel
theorem dX10_format_83 : decode cX10_format 83 = .ok (.putfield 319, 3) := by decide +kernel
theorem dX10_format_86 : decode cX10_format 86 = .ok (.iconst 0, 1) := by decide +kernel
theorem dX10_format_87 : decode cX10_format 87 = .ok (.istore 6, 2) := by decide +kernel
theorem dX10_format_89 : decode cX10_format 89 = .ok (.iload 6, 2) := by decide +kernel
theorem dX10_format_91 : decode cX10_format 91 = .ok (.aload_n 0, 1) := by decide +kernel
theorem dX10_format_92 : decode cX10_format 92 = .ok (.getfield 319, 3) := by decide +kernel
theorem dX10_format_95 : decode cX10_format 95 = .ok (.if_icmp .ge 27, 3) := by decide +kernel
theorem dX10_format_98 : decode cX10_format 98 = .ok (.aload_n 0, 1) := by decide +kernel
theorem dX10_format_99 : decode cX10_format 99 = .ok (.getfield 60, 3) := by decide +kernel
theorem dX10_format_102 : decode cX10_format 102 = .ok (.iload 6, 2) := by decide +kernel
theorem dX10_format_104 : decode cX10_format 104 = .ok (.aload_n 0, 1) := by decide +kernel
theorem dX10_format_105 : decode cX10_format 105 = .ok (.getfield 48, 3) := by decide +kernel
theorem dX10_format_108 : decode cX10_format 108 = .ok (.lload 4, 2) := by decide +kernel
theorem dX10_format_110 : decode cX10_format 110 = .ok (.l2i, 1) := by decide +kernel
theorem dX10_format_111 : decode cX10_format 111 = .ok (.iload 6, 2) := by decide +kernel
theorem dX10_format_113 : decode cX10_format 113 = .ok (.iadd, 1) := by decide +kernel
theorem dX10_format_114 : decode cX10_format 114 = .ok (.iaload, 1) := by decide +kernel
theorem dX10_format_115 : decode cX10_format 115 = .ok (.iastore, 1) := by decide +kernel
theorem dX10_format_116 : decode cX10_format 116 = .ok (.iinc 6 1, 3) := by decide +kernel
theorem dX10_format_119 : decode cX10_format 119 = .ok (.goto (-30), 3) := by decide +kernel
theorem dX10_format_122 : decode cX10_format 122 = .ok (.aload_n 0, 1) := by decide +kernel
theorem dX10_format_123 : decode cX10_format 123 = .ok (.getfield 319, 3) := by decide +kernel
theorem dX10_format_126 : decode cX10_format 126 = .ok (.ireturn, 1) := by decide +kernel
theorem dX10_formattedByte_0 : decode cX10_formattedByte 0 = .ok (.aload_n 0, 1) := by decide +kernel
theorem dX10_formattedByte_1 : decode cX10_formattedByte 1 = .ok (.iconst 0, 1) := by decide +kernel
theorem dX10_formattedByte_2 : decode cX10_formattedByte 2 = .ok (.putfield 95, 3) := by decide +kernel
theorem dX10_formattedByte_5 : decode cX10_formattedByte 5 = .ok (.iload_n 1, 1) := by decide +kernel
theorem dX10_formattedByte_6 : decode cX10_formattedByte 6 = .ok (.i2l, 1) := by decide +kernel
theorem dX10_formattedByte_7 : decode cX10_formattedByte 7 = .ok (.lconst 0, 1) := by decide +kernel
theorem dX10_formattedByte_8 : decode cX10_formattedByte 8 = .ok (.aload_n 0, 1) := by decide +kernel
theorem dX10_formattedByte_9 : decode cX10_formattedByte 9 = .ok (.getfield 319, 3) := by decide +kernel
theorem dX10_formattedByte_12 : decode cX10_formattedByte 12 = .ok (.i2l, 1) := by decide +kernel
theorem dX10_formattedByte_13 : decode cX10_formattedByte 13 = .ok (.lconst 1, 1) := by decide +kernel
theorem dX10_formattedByte_14 : decode cX10_formattedByte 14 = .ok (.lsub, 1) := by decide +kernel
theorem dX10_formattedByte_15 : decode cX10_formattedByte 15 = .ok (.invokestatic 106, 3) := by decide +kernel
theorem dX10_formattedByte_18 : decode cX10_formattedByte 18 = .ok (.ifCond .eq 12, 3) := by decide +kernel
theorem dX10_formattedByte_21 : decode cX10_formattedByte 21 = .ok (.aload_n 0, 1) := by decide +kernel
theorem dX10_formattedByte_22 : decode cX10_formattedByte 22 = .ok (.getfield 60, 3) := by decide +kernel
theorem dX10_formattedByte_25 : decode cX10_formattedByte 25 = .ok (.iload_n 1, 1) := by decide +kernel
theorem dX10_formattedByte_26 : decode cX10_formattedByte 26 = .ok (.iaload, 1) := by decide +kernel
theorem dX10_formattedByte_27 : decode cX10_formattedByte 27 = .ok (.goto 4, 3) := by decide +kernel
theorem dX10_formattedByte_30 : decode cX10_formattedByte 30 = .ok (.iconst (-1), 1) := by decide +kernel
theorem dX10_formattedByte_31 : decode cX10_formattedByte 31 = .ok (.ireturn, 1) := by decide +kernel
theorem dX10_strips_0 : decode cX10_strips 0 = .ok (.aload_n 0, 1) := by decide +kernel
theorem dX10_strips_1 : decode cX10_strips 1 = .ok (.iconst 0, 1) := by decide +kernel
theorem dX10_strips_2 : decode cX10_strips 2 = .ok (.putfield 95, 3) := by decide +kernel
theorem dX10_strips_5 : decode cX10_strips 5 = .ok (.iload_n 1, 1) := by decide +kernel
theorem dX10_strips_6 : decode cX10_strips 6 = .ok (.invokestatic 311, 3) := by decide +kernel
theorem dX10_strips_9 : decode cX10_strips 9 = .ok (.ifCond .eq 16, 3) := by decide +kernel
theorem dX10_strips_12 : decode cX10_strips 12 = .ok (.aload_n 0, 1) := by decide +kernel
theorem dX10_strips_13 : decode cX10_strips 13 = .ok (.invokevirtual 304, 3) := by decide +kernel
theorem dX10_strips_16 : decode cX10_strips 16 = .ok (.iload_n 1, 1) := by decide +kernel
theorem dX10_strips_17 : decode cX10_strips 17 = .ok (.iadd, 1) := by decide +kernel
theorem dX10_strips_18 : decode cX10_strips 18 = .ok (.iconst 1, 1) := by decide +kernel
theorem dX10_strips_19 : decode cX10_strips 19 = .ok (.isub, 1) := by decide +kernel
theorem dX10_strips_20 : decode cX10_strips 20 = .ok (.iload_n 1, 1) := by decide +kernel
theorem dX10_strips_21 : decode cX10_strips 21 = .ok (.idiv, 1) := by decide +kernel
theorem dX10_strips_22 : decode cX10_strips 22 = .ok (.goto 8, 3) := by decide +kernel
theorem dX10_strips_25 : decode cX10_strips 25 = .ok (.aload_n 0, 1) := by decide +kernel
theorem dX10_strips_26 : decode cX10_strips 26 = .ok (.iconst 1, 1) := by decide +kernel
theorem dX10_strips_27 : decode cX10_strips 27 = .ok (.invokevirtual 240, 3) := by decide +kernel
theorem dX10_strips_30 : decode cX10_strips 30 = .ok (.ireturn, 1) := by decide +kernel
theorem dX10_cutBoxes_0 : decode cX10_cutBoxes 0 = .ok (.aload_n 0, 1) := by decide +kernel
theorem dX10_cutBoxes_1 : decode cX10_cutBoxes 1 = .ok (.iconst 0, 1) := by decide +kernel
theorem dX10_cutBoxes_2 : decode cX10_cutBoxes 2 = .ok (.putfield 95, 3) := by decide +kernel
theorem dX10_cutBoxes_5 : decode cX10_cutBoxes 5 = .ok (.iload_n 1, 1) := by decide +kernel
theorem dX10_cutBoxes_6 : decode cX10_cutBoxes 6 = .ok (.invokestatic 311, 3) := by decide +kernel
theorem dX10_cutBoxes_9 : decode cX10_cutBoxes 9 = .ok (.ifCond .ne 9, 3) := by decide +kernel
theorem dX10_cutBoxes_12 : decode cX10_cutBoxes 12 = .ok (.aload_n 0, 1) := by decide +kernel
theorem dX10_cutBoxes_13 : decode cX10_cutBoxes 13 = .ok (.iconst 1, 1) := by decide +kernel
theorem dX10_cutBoxes_14 : decode cX10_cutBoxes 14 = .ok (.invokevirtual 240, 3) := by decide +kernel
theorem dX10_cutBoxes_17 : decode cX10_cutBoxes 17 = .ok (.ireturn, 1) := by decide +kernel
theorem dX10_cutBoxes_18 : decode cX10_cutBoxes 18 = .ok (.aload_n 0, 1) := by decide +kernel
theorem dX10_cutBoxes_19 : decode cX10_cutBoxes 19 = .ok (.invokevirtual 215, 3) := by decide +kernel
theorem dX10_cutBoxes_22 : decode cX10_cutBoxes 22 = .ok (.iconst 0, 1) := by decide +kernel
theorem dX10_cutBoxes_23 : decode cX10_cutBoxes 23 = .ok (.istore_n 2, 1) := by decide +kernel
theorem dX10_cutBoxes_24 : decode cX10_cutBoxes 24 = .ok (.iconst 0, 1) := by decide +kernel
theorem dX10_cutBoxes_25 : decode cX10_cutBoxes 25 = .ok (.istore_n 3, 1) := by decide +kernel
theorem dX10_cutBoxes_26 : decode cX10_cutBoxes 26 = .ok (.iload_n 3, 1) := by decide +kernel
theorem dX10_cutBoxes_27 : decode cX10_cutBoxes 27 = .ok (.bipush 28, 2) := by decide +kernel
theorem dX10_cutBoxes_29 : decode cX10_cutBoxes 29 = .ok (.if_icmp .ge 53, 3) := by decide +kernel
theorem dX10_cutBoxes_32 : decode cX10_cutBoxes 32 = .ok (.aload_n 0, 1) := by decide +kernel
theorem dX10_cutBoxes_33 : decode cX10_cutBoxes 33 = .ok (.getfield 38, 3) := by decide +kernel
theorem dX10_cutBoxes_36 : decode cX10_cutBoxes 36 = .ok (.iload_n 3, 1) := by decide +kernel
theorem dX10_cutBoxes_37 : decode cX10_cutBoxes 37 = .ok (.baload, 1) := by decide +kernel
theorem dX10_cutBoxes_38 : decode cX10_cutBoxes 38 = .ok (.ifCond .eq 38, 3) := by decide +kernel
theorem dX10_cutBoxes_41 : decode cX10_cutBoxes 41 = .ok (.iload_n 2, 1) := by decide +kernel
theorem dX10_cutBoxes_42 : decode cX10_cutBoxes 42 = .ok (.aload_n 0, 1) := by decide +kernel
theorem dX10_cutBoxes_43 : decode cX10_cutBoxes 43 = .ok (.getfield 45, 3) := by decide +kernel
theorem dX10_cutBoxes_46 : decode cX10_cutBoxes 46 = .ok (.iload_n 3, 1) := by decide +kernel
theorem dX10_cutBoxes_47 : decode cX10_cutBoxes 47 = .ok (.iaload, 1) := by decide +kernel
theorem dX10_cutBoxes_48 : decode cX10_cutBoxes 48 = .ok (.iload_n 1, 1) := by decide +kernel
theorem dX10_cutBoxes_49 : decode cX10_cutBoxes 49 = .ok (.idiv, 1) := by decide +kernel
theorem dX10_cutBoxes_50 : decode cX10_cutBoxes 50 = .ok (.aload_n 0, 1) := by decide +kernel
theorem dX10_cutBoxes_51 : decode cX10_cutBoxes 51 = .ok (.getfield 45, 3) := by decide +kernel
theorem dX10_cutBoxes_54 : decode cX10_cutBoxes 54 = .ok (.iload_n 3, 1) := by decide +kernel
theorem dX10_cutBoxes_55 : decode cX10_cutBoxes 55 = .ok (.iaload, 1) := by decide +kernel
theorem dX10_cutBoxes_56 : decode cX10_cutBoxes 56 = .ok (.aload_n 0, 1) := by decide +kernel
theorem dX10_cutBoxes_57 : decode cX10_cutBoxes 57 = .ok (.iload_n 3, 1) := by decide +kernel
theorem dX10_cutBoxes_58 : decode cX10_cutBoxes 58 = .ok (.invokevirtual 181, 3) := by decide +kernel
theorem dX10_cutBoxes_61 : decode cX10_cutBoxes 61 = .ok (.iadd, 1) := by decide +kernel
theorem dX10_cutBoxes_62 : decode cX10_cutBoxes 62 = .ok (.iconst 1, 1) := by decide +kernel
theorem dX10_cutBoxes_63 : decode cX10_cutBoxes 63 = .ok (.isub, 1) := by decide +kernel
theorem dX10_cutBoxes_64 : decode cX10_cutBoxes 64 = .ok (.iload_n 1, 1) := by decide +kernel
theorem dX10_cutBoxes_65 : decode cX10_cutBoxes 65 = .ok (.idiv, 1) := by decide +kernel
theorem dX10_cutBoxes_66 : decode cX10_cutBoxes 66 = .ok (.if_icmp .eq 7, 3) := by decide +kernel
theorem dX10_cutBoxes_69 : decode cX10_cutBoxes 69 = .ok (.iconst 1, 1) := by decide +kernel
theorem dX10_cutBoxes_70 : decode cX10_cutBoxes 70 = .ok (.goto 4, 3) := by decide +kernel
theorem dX10_cutBoxes_73 : decode cX10_cutBoxes 73 = .ok (.iconst 0, 1) := by decide +kernel
theorem dX10_cutBoxes_74 : decode cX10_cutBoxes 74 = .ok (.iadd, 1) := by decide +kernel
theorem dX10_cutBoxes_75 : decode cX10_cutBoxes 75 = .ok (.istore_n 2, 1) := by decide +kernel
theorem dX10_cutBoxes_76 : decode cX10_cutBoxes 76 = .ok (.iinc 3 1, 3) := by decide +kernel
theorem dX10_cutBoxes_79 : decode cX10_cutBoxes 79 = .ok (.goto (-53), 3) := by decide +kernel
theorem dX10_cutBoxes_82 : decode cX10_cutBoxes 82 = .ok (.iload_n 2, 1) := by decide +kernel
theorem dX10_cutBoxes_83 : decode cX10_cutBoxes 83 = .ok (.ireturn, 1) := by decide +kernel
theorem dX10_repeated_0 : decode cX10_repeated 0 = .ok (.aload_n 0, 1) := by decide +kernel
theorem dX10_repeated_1 : decode cX10_repeated 1 = .ok (.iconst 0, 1) := by decide +kernel
theorem dX10_repeated_2 : decode cX10_repeated 2 = .ok (.putfield 95, 3) := by decide +kernel
theorem dX10_repeated_5 : decode cX10_repeated 5 = .ok (.aload_n 0, 1) := by decide +kernel
theorem dX10_repeated_6 : decode cX10_repeated 6 = .ok (.invokevirtual 190, 3) := by decide +kernel
theorem dX10_repeated_9 : decode cX10_repeated 9 = .ok (.aload_n 0, 1) := by decide +kernel
theorem dX10_repeated_10 : decode cX10_repeated 10 = .ok (.iconst 0, 1) := by decide +kernel
theorem dX10_repeated_11 : decode cX10_repeated 11 = .ok (.invokevirtual 227, 3) := by decide +kernel
theorem dX10_repeated_14 : decode cX10_repeated 14 = .ok (.istore_n 1, 1) := by decide +kernel
theorem dX10_repeated_15 : decode cX10_repeated 15 = .ok (.iload_n 1, 1) := by decide +kernel
theorem dX10_repeated_16 : decode cX10_repeated 16 = .ok (.ifCond .ne 7, 3) := by decide +kernel
theorem dX10_repeated_19 : decode cX10_repeated 19 = .ok (.fconst 0, 1) := by decide +kernel
theorem dX10_repeated_20 : decode cX10_repeated 20 = .ok (.goto 13, 3) := by decide +kernel
theorem dX10_repeated_23 : decode cX10_repeated 23 = .ok (.aload_n 0, 1) := by decide +kernel
theorem dX10_repeated_24 : decode cX10_repeated 24 = .ok (.bipush 16, 2) := by decide +kernel
theorem dX10_repeated_26 : decode cX10_repeated 26 = .ok (.invokevirtual 227, 3) := by decide +kernel
theorem dX10_repeated_29 : decode cX10_repeated 29 = .ok (.i2f, 1) := by decide +kernel
theorem dX10_repeated_30 : decode cX10_repeated 30 = .ok (.iload_n 1, 1) := by decide +kernel
theorem dX10_repeated_31 : decode cX10_repeated 31 = .ok (.i2f, 1) := by decide +kernel
theorem dX10_repeated_32 : decode cX10_repeated 32 = .ok (.fdiv, 1) := by decide +kernel
theorem dX10_repeated_33 : decode cX10_repeated 33 = .ok (.freturn, 1) := by decide +kernel
theorem dX10_inbreeding_0 : decode cX10_inbreeding 0 = .ok (.aload_n 0, 1) := by decide +kernel
theorem dX10_inbreeding_1 : decode cX10_inbreeding 1 = .ok (.iconst 0, 1) := by decide +kernel
theorem dX10_inbreeding_2 : decode cX10_inbreeding 2 = .ok (.putfield 95, 3) := by decide +kernel
theorem dX10_inbreeding_5 : decode cX10_inbreeding 5 = .ok (.aload_n 0, 1) := by decide +kernel
theorem dX10_inbreeding_6 : decode cX10_inbreeding 6 = .ok (.invokevirtual 275, 3) := by decide +kernel
theorem dX10_inbreeding_9 : decode cX10_inbreeding 9 = .ok (.lconst 0, 1) := by decide +kernel
theorem dX10_inbreeding_10 : decode cX10_inbreeding 10 = .ok (.lstore_n 1, 1) := by decide +kernel
theorem dX10_inbreeding_11 : decode cX10_inbreeding 11 = .ok (.iconst 0, 1) := by decide +kernel
theorem dX10_inbreeding_12 : decode cX10_inbreeding 12 = .ok (.istore_n 3, 1) := by decide +kernel
theorem dX10_inbreeding_13 : decode cX10_inbreeding 13 = .ok (.iload_n 3, 1) := by decide +kernel
theorem dX10_inbreeding_14 : decode cX10_inbreeding 14 = .ok (.aload_n 0, 1) := by decide +kernel
theorem dX10_inbreeding_15 : decode cX10_inbreeding 15 = .ok (.invokevirtual 110, 3) := by decide +kernel
theorem dX10_inbreeding_18 : decode cX10_inbreeding 18 = .ok (.if_icmp .ge 28, 3) := by decide +kernel
theorem dX10_inbreeding_21 : decode cX10_inbreeding 21 = .ok (.lload_n 1, 1) := by decide +kernel
theorem dX10_inbreeding_22 : decode cX10_inbreeding 22 = .ok (.aload_n 0, 1) := by decide +kernel
theorem dX10_inbreeding_23 : decode cX10_inbreeding 23 = .ok (.aload_n 0, 1) := by decide +kernel
theorem dX10_inbreeding_24 : decode cX10_inbreeding 24 = .ok (.iload_n 3, 1) := by decide +kernel
theorem dX10_inbreeding_25 : decode cX10_inbreeding 25 = .ok (.iconst 0, 1) := by decide +kernel
theorem dX10_inbreeding_26 : decode cX10_inbreeding 26 = .ok (.invokevirtual 102, 3) := by decide +kernel
theorem dX10_inbreeding_29 : decode cX10_inbreeding 29 = .ok (.aload_n 0, 1) := by decide +kernel
theorem dX10_inbreeding_30 : decode cX10_inbreeding 30 = .ok (.iload_n 3, 1) := by decide +kernel
theorem dX10_inbreeding_31 : decode cX10_inbreeding 31 = .ok (.iconst 1, 1) := by decide +kernel
theorem dX10_inbreeding_32 : decode cX10_inbreeding 32 = .ok (.invokevirtual 102, 3) := by decide +kernel
theorem dX10_inbreeding_35 : decode cX10_inbreeding 35 = .ok (.invokevirtual 265, 3) := by decide +kernel
theorem dX10_inbreeding_38 : decode cX10_inbreeding 38 = .ok (.ladd, 1) := by decide +kernel
theorem dX10_inbreeding_39 : decode cX10_inbreeding 39 = .ok (.lstore_n 1, 1) := by decide +kernel
theorem dX10_inbreeding_40 : decode cX10_inbreeding 40 = .ok (.iinc 3 1, 3) := by decide +kernel
theorem dX10_inbreeding_43 : decode cX10_inbreeding 43 = .ok (.goto (-30), 3) := by decide +kernel
theorem dX10_inbreeding_46 : decode cX10_inbreeding 46 = .ok (.aload_n 0, 1) := by decide +kernel
theorem dX10_inbreeding_47 : decode cX10_inbreeding 47 = .ok (.invokevirtual 110, 3) := by decide +kernel
theorem dX10_inbreeding_50 : decode cX10_inbreeding 50 = .ok (.ifCond .ne 7, 3) := by decide +kernel
theorem dX10_inbreeding_53 : decode cX10_inbreeding 53 = .ok (.dconst 0, 1) := by decide +kernel
theorem dX10_inbreeding_54 : decode cX10_inbreeding 54 = .ok (.goto 16, 3) := by decide +kernel
theorem dX10_inbreeding_57 : decode cX10_inbreeding 57 = .ok (.lload_n 1, 1) := by decide +kernel
theorem dX10_inbreeding_58 : decode cX10_inbreeding 58 = .ok (.l2d, 1) := by decide +kernel
theorem dX10_inbreeding_59 : decode cX10_inbreeding 59 = .ok (.aload_n 0, 1) := by decide +kernel
theorem dX10_inbreeding_60 : decode cX10_inbreeding 60 = .ok (.invokevirtual 110, 3) := by decide +kernel
theorem dX10_inbreeding_63 : decode cX10_inbreeding 63 = .ok (.i2l, 1) := by decide +kernel
theorem dX10_inbreeding_64 : decode cX10_inbreeding 64 = .ok (.ldc2_w 270, 3) := by decide +kernel
theorem dX10_inbreeding_67 : decode cX10_inbreeding 67 = .ok (.lmul, 1) := by decide +kernel
theorem dX10_inbreeding_68 : decode cX10_inbreeding 68 = .ok (.l2d, 1) := by decide +kernel
theorem dX10_inbreeding_69 : decode cX10_inbreeding 69 = .ok (.ddiv, 1) := by decide +kernel
theorem dX10_inbreeding_70 : decode cX10_inbreeding 70 = .ok (.dreturn, 1) := by decide +kernel
theorem dX10_addUnion_0 : decode cX10_addUnion 0 = .ok (.bipush 66, 2) := by decide +kernel
theorem dX10_addUnion_2 : decode cX10_addUnion 2 = .ok (.iconst 3, 1) := by decide +kernel
theorem dX10_addUnion_3 : decode cX10_addUnion 3 = .ok (.aload_n 0, 1) := by decide +kernel
theorem dX10_addUnion_4 : decode cX10_addUnion 4 = .ok (.invokevirtual 110, 3) := by decide +kernel
theorem dX10_addUnion_7 : decode cX10_addUnion 7 = .ok (.imul, 1) := by decide +kernel
theorem dX10_addUnion_8 : decode cX10_addUnion 8 = .ok (.iadd, 1) := by decide +kernel
theorem dX10_addUnion_9 : decode cX10_addUnion 9 = .ok (.istore 4, 2) := by decide +kernel
theorem dX10_addUnion_11 : decode cX10_addUnion 11 = .ok (.aload_n 0, 1) := by decide +kernel
theorem dX10_addUnion_12 : decode cX10_addUnion 12 = .ok (.getfield 22, 3) := by decide +kernel
theorem dX10_addUnion_15 : decode cX10_addUnion 15 = .ok (.iload 4, 2) := by decide +kernel
theorem dX10_addUnion_17 : decode cX10_addUnion 17 = .ok (.iload_n 1, 1) := by decide +kernel
theorem dX10_addUnion_18 : decode cX10_addUnion 18 = .ok (.i2l, 1) := by decide +kernel
theorem dX10_addUnion_19 : decode cX10_addUnion 19 = .ok (.lastore, 1) := by decide +kernel
theorem dX10_addUnion_20 : decode cX10_addUnion 20 = .ok (.aload_n 0, 1) := by decide +kernel
theorem dX10_addUnion_21 : decode cX10_addUnion 21 = .ok (.getfield 22, 3) := by decide +kernel
theorem dX10_addUnion_24 : decode cX10_addUnion 24 = .ok (.iload 4, 2) := by decide +kernel
theorem dX10_addUnion_26 : decode cX10_addUnion 26 = .ok (.iconst 1, 1) := by decide +kernel
theorem dX10_addUnion_27 : decode cX10_addUnion 27 = .ok (.iadd, 1) := by decide +kernel
theorem dX10_addUnion_28 : decode cX10_addUnion 28 = .ok (.iload_n 2, 1) := by decide +kernel
theorem dX10_addUnion_29 : decode cX10_addUnion 29 = .ok (.i2l, 1) := by decide +kernel
theorem dX10_addUnion_30 : decode cX10_addUnion 30 = .ok (.lastore, 1) := by decide +kernel
theorem dX10_addUnion_31 : decode cX10_addUnion 31 = .ok (.aload_n 0, 1) := by decide +kernel
theorem dX10_addUnion_32 : decode cX10_addUnion 32 = .ok (.getfield 22, 3) := by decide +kernel
theorem dX10_addUnion_35 : decode cX10_addUnion 35 = .ok (.iload 4, 2) := by decide +kernel
theorem dX10_addUnion_37 : decode cX10_addUnion 37 = .ok (.iconst 2, 1) := by decide +kernel
theorem dX10_addUnion_38 : decode cX10_addUnion 38 = .ok (.iadd, 1) := by decide +kernel
theorem dX10_addUnion_39 : decode cX10_addUnion 39 = .ok (.iload_n 3, 1) := by decide +kernel
theorem dX10_addUnion_40 : decode cX10_addUnion 40 = .ok (.i2l, 1) := by decide +kernel
theorem dX10_addUnion_41 : decode cX10_addUnion 41 = .ok (.lastore, 1) := by decide +kernel
theorem dX10_addUnion_42 : decode cX10_addUnion 42 = .ok (.aload_n 0, 1) := by decide +kernel
theorem dX10_addUnion_43 : decode cX10_addUnion 43 = .ok (.getfield 22, 3) := by decide +kernel
theorem dX10_addUnion_46 : decode cX10_addUnion 46 = .ok (.iconst 1, 1) := by decide +kernel
theorem dX10_addUnion_47 : decode cX10_addUnion 47 = .ok (.dup2, 1) := by decide +kernel
theorem dX10_addUnion_48 : decode cX10_addUnion 48 = .ok (.laload, 1) := by decide +kernel
theorem dX10_addUnion_49 : decode cX10_addUnion 49 = .ok (.lconst 1, 1) := by decide +kernel
theorem dX10_addUnion_50 : decode cX10_addUnion 50 = .ok (.ladd, 1) := by decide +kernel
theorem dX10_addUnion_51 : decode cX10_addUnion 51 = .ok (.lastore, 1) := by decide +kernel
theorem dX10_addUnion_52 : decode cX10_addUnion 52 = .ok (.return_, 1) := by decide +kernel
theorem dX10_marry_0 : decode cX10_marry 0 = .ok (.aload_n 0, 1) := by decide +kernel
theorem dX10_marry_1 : decode cX10_marry 1 = .ok (.aload_n 0, 1) := by decide +kernel
theorem dX10_marry_2 : decode cX10_marry 2 = .ok (.iload_n 1, 1) := by decide +kernel
theorem dX10_marry_3 : decode cX10_marry 3 = .ok (.invokevirtual 234, 3) := by decide +kernel
theorem dX10_marry_6 : decode cX10_marry 6 = .ok (.ifCond .eq 11, 3) := by decide +kernel
theorem dX10_marry_9 : decode cX10_marry 9 = .ok (.aload_n 0, 1) := by decide +kernel
theorem dX10_marry_10 : decode cX10_marry 10 = .ok (.iload_n 2, 1) := by decide +kernel
theorem dX10_marry_11 : decode cX10_marry 11 = .ok (.invokevirtual 234, 3) := by decide +kernel
theorem dX10_marry_14 : decode cX10_marry 14 = .ok (.ifCond .ne 7, 3) := by decide +kernel
theorem dX10_marry_17 : decode cX10_marry 17 = .ok (.iconst 1, 1) := by decide +kernel
theorem dX10_marry_18 : decode cX10_marry 18 = .ok (.goto 20, 3) := by decide +kernel
theorem dX10_marry_21 : decode cX10_marry 21 = .ok (.iload_n 3, 1) := by decide +kernel
theorem dX10_marry_22 : decode cX10_marry 22 = .ok (.i2l, 1) := by decide +kernel
theorem dX10_marry_23 : decode cX10_marry 23 = .ok (.lconst 0, 1) := by decide +kernel
theorem dX10_marry_24 : decode cX10_marry 24 = .ok (.ldc2_w 322, 3) := by decide +kernel
theorem dX10_marry_27 : decode cX10_marry 27 = .ok (.invokestatic 106, 3) := by decide +kernel
theorem dX10_marry_30 : decode cX10_marry 30 = .ok (.ifCond .eq 7, 3) := by decide +kernel
theorem dX10_marry_33 : decode cX10_marry 33 = .ok (.iconst 0, 1) := by decide +kernel
theorem dX10_marry_34 : decode cX10_marry 34 = .ok (.goto 4, 3) := by decide +kernel
theorem dX10_marry_37 : decode cX10_marry 37 = .ok (.iconst 2, 1) := by decide +kernel
theorem dX10_marry_38 : decode cX10_marry 38 = .ok (.putfield 95, 3) := by decide +kernel
theorem dX10_marry_41 : decode cX10_marry 41 = .ok (.aload_n 0, 1) := by decide +kernel
theorem dX10_marry_42 : decode cX10_marry 42 = .ok (.getfield 95, 3) := by decide +kernel
theorem dX10_marry_45 : decode cX10_marry 45 = .ok (.ifCond .eq 5, 3) := by decide +kernel
theorem dX10_marry_48 : decode cX10_marry 48 = .ok (.iconst 0, 1) := by decide +kernel
theorem dX10_marry_49 : decode cX10_marry 49 = .ok (.ireturn, 1) := by decide +kernel
theorem dX10_marry_50 : decode cX10_marry 50 = .ok (.iload_n 1, 1) := by decide +kernel
theorem dX10_marry_51 : decode cX10_marry 51 = .ok (.iload_n 2, 1) := by decide +kernel
theorem dX10_marry_52 : decode cX10_marry 52 = .ok (.if_icmp .eq 13, 3) := by decide +kernel
theorem dX10_marry_55 : decode cX10_marry 55 = .ok (.aload_n 0, 1) := by decide +kernel
theorem dX10_marry_56 : decode cX10_marry 56 = .ok (.iload_n 1, 1) := by decide +kernel
theorem dX10_marry_57 : decode cX10_marry 57 = .ok (.iload_n 2, 1) := by decide +kernel
theorem dX10_marry_58 : decode cX10_marry 58 = .ok (.invokevirtual 324, 3) := by decide +kernel
theorem dX10_marry_61 : decode cX10_marry 61 = .ok (.iconst (-1), 1) := by decide +kernel
theorem dX10_marry_62 : decode cX10_marry 62 = .ok (.if_icmp .eq 6, 3) := by decide +kernel
theorem dX10_marry_65 : decode cX10_marry 65 = .ok (.bipush (-2), 2) := by decide +kernel
theorem dX10_marry_67 : decode cX10_marry 67 = .ok (.ireturn, 1) := by decide +kernel
theorem dX10_marry_68 : decode cX10_marry 68 = .ok (.aload_n 0, 1) := by decide +kernel
theorem dX10_marry_69 : decode cX10_marry 69 = .ok (.invokevirtual 110, 3) := by decide +kernel
theorem dX10_marry_72 : decode cX10_marry 72 = .ok (.bipush 12, 2) := by decide +kernel
theorem dX10_marry_74 : decode cX10_marry 74 = .ok (.if_icmp .ne 6, 3) := by decide +kernel
theorem dX10_marry_77 : decode cX10_marry 77 = .ok (.bipush (-3), 2) := by decide +kernel
theorem dX10_marry_79 : decode cX10_marry 79 = .ok (.ireturn, 1) := by decide +kernel
theorem dX10_marry_80 : decode cX10_marry 80 = .ok (.aload_n 0, 1) := by decide +kernel
theorem dX10_marry_81 : decode cX10_marry 81 = .ok (.invokevirtual 327, 3) := by decide +kernel
theorem dX10_marry_84 : decode cX10_marry 84 = .ok (.aload_n 0, 1) := by decide +kernel
theorem dX10_marry_85 : decode cX10_marry 85 = .ok (.iload_n 1, 1) := by decide +kernel
theorem dX10_marry_86 : decode cX10_marry 86 = .ok (.iload_n 2, 1) := by decide +kernel
theorem dX10_marry_87 : decode cX10_marry 87 = .ok (.iload_n 3, 1) := by decide +kernel
theorem dX10_marry_88 : decode cX10_marry 88 = .ok (.invokevirtual 330, 3) := by decide +kernel
theorem dX10_marry_91 : decode cX10_marry 91 = .ok (.aload_n 0, 1) := by decide +kernel
theorem dX10_marry_92 : decode cX10_marry 92 = .ok (.invokevirtual 333, 3) := by decide +kernel
theorem dX10_marry_95 : decode cX10_marry 95 = .ok (.aload_n 0, 1) := by decide +kernel
theorem dX10_marry_96 : decode cX10_marry 96 = .ok (.invokevirtual 110, 3) := by decide +kernel
theorem dX10_marry_99 : decode cX10_marry 99 = .ok (.iconst 1, 1) := by decide +kernel
theorem dX10_marry_100 : decode cX10_marry 100 = .ok (.isub, 1) := by decide +kernel
theorem dX10_marry_101 : decode cX10_marry 101 = .ok (.ireturn, 1) := by decide +kernel
theorem dX10_isAncestorOfBoth_0 : decode cX10_isAncestorOfBoth 0 = .ok (.aload_n 0, 1) := by decide +kernel
theorem dX10_isAncestorOfBoth_1 : decode cX10_isAncestorOfBoth 1 = .ok (.aload_n 0, 1) := by decide +kernel
theorem dX10_isAncestorOfBoth_2 : decode cX10_isAncestorOfBoth 2 = .ok (.iload_n 1, 1) := by decide +kernel
theorem dX10_isAncestorOfBoth_3 : decode cX10_isAncestorOfBoth 3 = .ok (.iconst 0, 1) := by decide +kernel
theorem dX10_isAncestorOfBoth_4 : decode cX10_isAncestorOfBoth 4 = .ok (.invokevirtual 102, 3) := by decide +kernel
theorem dX10_isAncestorOfBoth_7 : decode cX10_isAncestorOfBoth 7 = .ok (.invokevirtual 254, 3) := by decide +kernel
theorem dX10_isAncestorOfBoth_10 : decode cX10_isAncestorOfBoth 10 = .ok (.aload_n 0, 1) := by decide +kernel
theorem dX10_isAncestorOfBoth_11 : decode cX10_isAncestorOfBoth 11 = .ok (.aload_n 0, 1) := by decide +kernel
theorem dX10_isAncestorOfBoth_12 : decode cX10_isAncestorOfBoth 12 = .ok (.iload_n 1, 1) := by decide +kernel
theorem dX10_isAncestorOfBoth_13 : decode cX10_isAncestorOfBoth 13 = .ok (.iconst 1, 1) := by decide +kernel
theorem dX10_isAncestorOfBoth_14 : decode cX10_isAncestorOfBoth 14 = .ok (.invokevirtual 102, 3) := by decide +kernel
theorem dX10_isAncestorOfBoth_17 : decode cX10_isAncestorOfBoth 17 = .ok (.invokevirtual 254, 3) := by decide +kernel
theorem dX10_isAncestorOfBoth_20 : decode cX10_isAncestorOfBoth 20 = .ok (.ior, 1) := by decide +kernel
theorem dX10_isAncestorOfBoth_21 : decode cX10_isAncestorOfBoth 21 = .ok (.istore_n 3, 1) := by decide +kernel
theorem dX10_isAncestorOfBoth_22 : decode cX10_isAncestorOfBoth 22 = .ok (.aload_n 0, 1) := by decide +kernel
theorem dX10_isAncestorOfBoth_23 : decode cX10_isAncestorOfBoth 23 = .ok (.iload_n 1, 1) := by decide +kernel
theorem dX10_isAncestorOfBoth_24 : decode cX10_isAncestorOfBoth 24 = .ok (.iload_n 2, 1) := by decide +kernel
theorem dX10_isAncestorOfBoth_25 : decode cX10_isAncestorOfBoth 25 = .ok (.invokevirtual 113, 3) := by decide +kernel
theorem dX10_isAncestorOfBoth_28 : decode cX10_isAncestorOfBoth 28 = .ok (.ifCond .ne 12, 3) := by decide +kernel
theorem dX10_isAncestorOfBoth_31 : decode cX10_isAncestorOfBoth 31 = .ok (.iload_n 3, 1) := by decide +kernel
theorem dX10_isAncestorOfBoth_32 : decode cX10_isAncestorOfBoth 32 = .ok (.iload_n 2, 1) := by decide +kernel
theorem dX10_isAncestorOfBoth_33 : decode cX10_isAncestorOfBoth 33 = .ok (.ishr, 1) := by decide +kernel
theorem dX10_isAncestorOfBoth_34 : decode cX10_isAncestorOfBoth 34 = .ok (.iconst 1, 1) := by decide +kernel
theorem dX10_isAncestorOfBoth_35 : decode cX10_isAncestorOfBoth 35 = .ok (.iand, 1) := by decide +kernel
theorem dX10_isAncestorOfBoth_36 : decode cX10_isAncestorOfBoth 36 = .ok (.iconst 1, 1) := by decide +kernel
theorem dX10_isAncestorOfBoth_37 : decode cX10_isAncestorOfBoth 37 = .ok (.if_icmp .ne 7, 3) := by decide +kernel
theorem dX10_isAncestorOfBoth_40 : decode cX10_isAncestorOfBoth 40 = .ok (.iconst 1, 1) := by decide +kernel
theorem dX10_isAncestorOfBoth_41 : decode cX10_isAncestorOfBoth 41 = .ok (.goto 4, 3) := by decide +kernel
theorem dX10_isAncestorOfBoth_44 : decode cX10_isAncestorOfBoth 44 = .ok (.iconst 0, 1) := by decide +kernel
theorem dX10_isAncestorOfBoth_45 : decode cX10_isAncestorOfBoth 45 = .ok (.ireturn, 1) := by decide +kernel
theorem dX10_adopt_0 : decode cX10_adopt 0 = .ok (.aload_n 0, 1) := by decide +kernel
theorem dX10_adopt_1 : decode cX10_adopt 1 = .ok (.aload_n 0, 1) := by decide +kernel
theorem dX10_adopt_2 : decode cX10_adopt 2 = .ok (.iload_n 1, 1) := by decide +kernel
theorem dX10_adopt_3 : decode cX10_adopt 3 = .ok (.invokevirtual 246, 3) := by decide +kernel
theorem dX10_adopt_6 : decode cX10_adopt 6 = .ok (.ifCond .eq 15, 3) := by decide +kernel
theorem dX10_adopt_9 : decode cX10_adopt 9 = .ok (.aload_n 0, 1) := by decide +kernel
theorem dX10_adopt_10 : decode cX10_adopt 10 = .ok (.iload_n 2, 1) := by decide +kernel
theorem dX10_adopt_11 : decode cX10_adopt 11 = .ok (.invokevirtual 234, 3) := by decide +kernel
theorem dX10_adopt_14 : decode cX10_adopt 14 = .ok (.ifCond .eq 7, 3) := by decide +kernel
theorem dX10_adopt_17 : decode cX10_adopt 17 = .ok (.iconst 0, 1) := by decide +kernel
theorem dX10_adopt_18 : decode cX10_adopt 18 = .ok (.goto 4, 3) := by decide +kernel
theorem dX10_adopt_21 : decode cX10_adopt 21 = .ok (.iconst 1, 1) := by decide +kernel
theorem dX10_adopt_22 : decode cX10_adopt 22 = .ok (.putfield 95, 3) := by decide +kernel
theorem dX10_adopt_25 : decode cX10_adopt 25 = .ok (.aload_n 0, 1) := by decide +kernel
theorem dX10_adopt_26 : decode cX10_adopt 26 = .ok (.getfield 95, 3) := by decide +kernel
theorem dX10_adopt_29 : decode cX10_adopt 29 = .ok (.ifCond .eq 5, 3) := by decide +kernel
theorem dX10_adopt_32 : decode cX10_adopt 32 = .ok (.iconst 0, 1) := by decide +kernel
theorem dX10_adopt_33 : decode cX10_adopt 33 = .ok (.ireturn, 1) := by decide +kernel
theorem dX10_adopt_34 : decode cX10_adopt 34 = .ok (.aload_n 0, 1) := by decide +kernel
theorem dX10_adopt_35 : decode cX10_adopt 35 = .ok (.iload_n 2, 1) := by decide +kernel
theorem dX10_adopt_36 : decode cX10_adopt 36 = .ok (.invokevirtual 117, 3) := by decide +kernel
theorem dX10_adopt_39 : decode cX10_adopt 39 = .ok (.iconst (-1), 1) := by decide +kernel
theorem dX10_adopt_40 : decode cX10_adopt 40 = .ok (.if_icmp .ne 12, 3) := by decide +kernel
theorem dX10_adopt_43 : decode cX10_adopt 43 = .ok (.aload_n 0, 1) := by decide +kernel
theorem dX10_adopt_44 : decode cX10_adopt 44 = .ok (.iload_n 1, 1) := by decide +kernel
theorem dX10_adopt_45 : decode cX10_adopt 45 = .ok (.iload_n 2, 1) := by decide +kernel
theorem dX10_adopt_46 : decode cX10_adopt 46 = .ok (.invokevirtual 336, 3) := by decide +kernel
theorem dX10_adopt_49 : decode cX10_adopt 49 = .ok (.ifCond .eq 20, 3) := by decide +kernel
theorem dX10_adopt_52 : decode cX10_adopt 52 = .ok (.aload_n 0, 1) := by decide +kernel
theorem dX10_adopt_53 : decode cX10_adopt 53 = .ok (.iload_n 2, 1) := by decide +kernel
theorem dX10_adopt_54 : decode cX10_adopt 54 = .ok (.invokevirtual 117, 3) := by decide +kernel
theorem dX10_adopt_57 : decode cX10_adopt 57 = .ok (.iconst (-1), 1) := by decide +kernel
theorem dX10_adopt_58 : decode cX10_adopt 58 = .ok (.if_icmp .eq 8, 3) := by decide +kernel
theorem dX10_adopt_61 : decode cX10_adopt 61 = .ok (.bipush (-2), 2) := by decide +kernel
theorem dX10_adopt_63 : decode cX10_adopt 63 = .ok (.goto 5, 3) := by decide +kernel
theorem dX10_adopt_66 : decode cX10_adopt 66 = .ok (.bipush (-3), 2) := by decide +kernel
theorem dX10_adopt_68 : decode cX10_adopt 68 = .ok (.ireturn, 1) := by decide +kernel
theorem dX10_adopt_69 : decode cX10_adopt 69 = .ok (.aload_n 0, 1) := by decide +kernel
theorem dX10_adopt_70 : decode cX10_adopt 70 = .ok (.invokevirtual 327, 3) := by decide +kernel
theorem dX10_adopt_73 : decode cX10_adopt 73 = .ok (.aload_n 0, 1) := by decide +kernel
theorem dX10_adopt_74 : decode cX10_adopt 74 = .ok (.iload_n 2, 1) := by decide +kernel
theorem dX10_adopt_75 : decode cX10_adopt 75 = .ok (.iconst 1, 1) := by decide +kernel
theorem dX10_adopt_76 : decode cX10_adopt 76 = .ok (.iload_n 1, 1) := by decide +kernel
theorem dX10_adopt_77 : decode cX10_adopt 77 = .ok (.i2l, 1) := by decide +kernel
theorem dX10_adopt_78 : decode cX10_adopt 78 = .ok (.invokevirtual 339, 3) := by decide +kernel
theorem dX10_adopt_81 : decode cX10_adopt 81 = .ok (.aload_n 0, 1) := by decide +kernel
theorem dX10_adopt_82 : decode cX10_adopt 82 = .ok (.invokevirtual 333, 3) := by decide +kernel
theorem dX10_adopt_85 : decode cX10_adopt 85 = .ok (.aload_n 0, 1) := by decide +kernel
theorem dX10_adopt_86 : decode cX10_adopt 86 = .ok (.getfield 25, 3) := by decide +kernel
theorem dX10_adopt_89 : decode cX10_adopt 89 = .ok (.iload_n 2, 1) := by decide +kernel
theorem dX10_adopt_90 : decode cX10_adopt 90 = .ok (.iaload, 1) := by decide +kernel
theorem dX10_adopt_91 : decode cX10_adopt 91 = .ok (.ireturn, 1) := by decide +kernel
theorem dX10_release_0 : decode cX10_release 0 = .ok (.aload_n 0, 1) := by decide +kernel
theorem dX10_release_1 : decode cX10_release 1 = .ok (.iconst 0, 1) := by decide +kernel
theorem dX10_release_2 : decode cX10_release 2 = .ok (.putfield 95, 3) := by decide +kernel
theorem dX10_release_5 : decode cX10_release 5 = .ok (.aload_n 0, 1) := by decide +kernel
theorem dX10_release_6 : decode cX10_release 6 = .ok (.iload_n 1, 1) := by decide +kernel
theorem dX10_release_7 : decode cX10_release 7 = .ok (.invokevirtual 234, 3) := by decide +kernel
theorem dX10_release_10 : decode cX10_release 10 = .ok (.ifCond .ne 9, 3) := by decide +kernel
theorem dX10_release_13 : decode cX10_release 13 = .ok (.aload_n 0, 1) := by decide +kernel
theorem dX10_release_14 : decode cX10_release 14 = .ok (.iconst 1, 1) := by decide +kernel
theorem dX10_release_15 : decode cX10_release 15 = .ok (.invokevirtual 240, 3) := by decide +kernel
theorem dX10_release_18 : decode cX10_release 18 = .ok (.ireturn, 1) := by decide +kernel
theorem dX10_release_19 : decode cX10_release 19 = .ok (.aload_n 0, 1) := by decide +kernel
theorem dX10_release_20 : decode cX10_release 20 = .ok (.iload_n 1, 1) := by decide +kernel
theorem dX10_release_21 : decode cX10_release 21 = .ok (.invokevirtual 117, 3) := by decide +kernel
theorem dX10_release_24 : decode cX10_release 24 = .ok (.istore_n 2, 1) := by decide +kernel
theorem dX10_release_25 : decode cX10_release 25 = .ok (.iload_n 2, 1) := by decide +kernel
theorem dX10_release_26 : decode cX10_release 26 = .ok (.iconst (-1), 1) := by decide +kernel
theorem dX10_release_27 : decode cX10_release 27 = .ok (.if_icmp .ne 6, 3) := by decide +kernel
theorem dX10_release_30 : decode cX10_release 30 = .ok (.bipush (-2), 2) := by decide +kernel
theorem dX10_release_32 : decode cX10_release 32 = .ok (.ireturn, 1) := by decide +kernel
theorem dX10_release_33 : decode cX10_release 33 = .ok (.aload_n 0, 1) := by decide +kernel
theorem dX10_release_34 : decode cX10_release 34 = .ok (.invokevirtual 327, 3) := by decide +kernel
theorem dX10_release_37 : decode cX10_release 37 = .ok (.aload_n 0, 1) := by decide +kernel
theorem dX10_release_38 : decode cX10_release 38 = .ok (.iload_n 1, 1) := by decide +kernel
theorem dX10_release_39 : decode cX10_release 39 = .ok (.iconst 1, 1) := by decide +kernel
theorem dX10_release_40 : decode cX10_release 40 = .ok (.ldc2_w 260, 3) := by decide +kernel
theorem dX10_release_43 : decode cX10_release 43 = .ok (.invokevirtual 339, 3) := by decide +kernel
theorem dX10_release_46 : decode cX10_release 46 = .ok (.aload_n 0, 1) := by decide +kernel
theorem dX10_release_47 : decode cX10_release 47 = .ok (.invokevirtual 333, 3) := by decide +kernel
theorem dX10_release_50 : decode cX10_release 50 = .ok (.iload_n 2, 1) := by decide +kernel
theorem dX10_release_51 : decode cX10_release 51 = .ok (.ireturn, 1) := by decide +kernel
theorem dX10_swap_0 : decode cX10_swap 0 = .ok (.aload_n 0, 1) := by decide +kernel
theorem dX10_swap_1 : decode cX10_swap 1 = .ok (.iconst 0, 1) := by decide +kernel
theorem dX10_swap_2 : decode cX10_swap 2 = .ok (.putfield 95, 3) := by decide +kernel
theorem dX10_swap_5 : decode cX10_swap 5 = .ok (.aload_n 0, 1) := by decide +kernel
theorem dX10_swap_6 : decode cX10_swap 6 = .ok (.invokevirtual 190, 3) := by decide +kernel
theorem dX10_swap_9 : decode cX10_swap 9 = .ok (.aload_n 0, 1) := by decide +kernel
theorem dX10_swap_10 : decode cX10_swap 10 = .ok (.iload_n 1, 1) := by decide +kernel
theorem dX10_swap_11 : decode cX10_swap 11 = .ok (.iload_n 2, 1) := by decide +kernel
theorem dX10_swap_12 : decode cX10_swap 12 = .ok (.invokevirtual 292, 3) := by decide +kernel
theorem dX10_swap_15 : decode cX10_swap 15 = .ok (.ifCond .eq 12, 3) := by decide +kernel
theorem dX10_swap_18 : decode cX10_swap 18 = .ok (.aload_n 0, 1) := by decide +kernel
theorem dX10_swap_19 : decode cX10_swap 19 = .ok (.iload_n 1, 1) := by decide +kernel
theorem dX10_swap_20 : decode cX10_swap 20 = .ok (.iload_n 3, 1) := by decide +kernel
theorem dX10_swap_21 : decode cX10_swap 21 = .ok (.invokevirtual 292, 3) := by decide +kernel
theorem dX10_swap_24 : decode cX10_swap 24 = .ok (.ifCond .ne 9, 3) := by decide +kernel
theorem dX10_swap_27 : decode cX10_swap 27 = .ok (.aload_n 0, 1) := by decide +kernel
theorem dX10_swap_28 : decode cX10_swap 28 = .ok (.iconst 1, 1) := by decide +kernel
theorem dX10_swap_29 : decode cX10_swap 29 = .ok (.invokevirtual 240, 3) := by decide +kernel
theorem dX10_swap_32 : decode cX10_swap 32 = .ok (.ireturn, 1) := by decide +kernel
theorem dX10_swap_33 : decode cX10_swap 33 = .ok (.aload_n 0, 1) := by decide +kernel
theorem dX10_swap_34 : decode cX10_swap 34 = .ok (.invokevirtual 327, 3) := by decide +kernel
theorem dX10_swap_37 : decode cX10_swap 37 = .ok (.aload_n 0, 1) := by decide +kernel
theorem dX10_swap_38 : decode cX10_swap 38 = .ok (.iload_n 1, 1) := by decide +kernel
theorem dX10_swap_39 : decode cX10_swap 39 = .ok (.iload_n 2, 1) := by decide +kernel
theorem dX10_swap_40 : decode cX10_swap 40 = .ok (.iload_n 3, 1) := by decide +kernel
theorem dX10_swap_41 : decode cX10_swap 41 = .ok (.invokevirtual 300, 3) := by decide +kernel
theorem dX10_swap_44 : decode cX10_swap 44 = .ok (.aload_n 0, 1) := by decide +kernel
theorem dX10_swap_45 : decode cX10_swap 45 = .ok (.invokevirtual 297, 3) := by decide +kernel
theorem dX10_swap_48 : decode cX10_swap 48 = .ok (.ireturn, 1) := by decide +kernel
theorem dX10_improveOnce_0 : decode cX10_improveOnce 0 = .ok (.iconst 0, 1) := by decide +kernel
theorem dX10_improveOnce_1 : decode cX10_improveOnce 1 = .ok (.istore_n 1, 1) := by decide +kernel
theorem dX10_improveOnce_2 : decode cX10_improveOnce 2 = .ok (.iconst 0, 1) := by decide +kernel
theorem dX10_improveOnce_3 : decode cX10_improveOnce 3 = .ok (.istore_n 2, 1) := by decide +kernel
theorem dX10_improveOnce_4 : decode cX10_improveOnce 4 = .ok (.iload_n 2, 1) := by decide +kernel
theorem dX10_improveOnce_5 : decode cX10_improveOnce 5 = .ok (.aload_n 0, 1) := by decide +kernel
theorem dX10_improveOnce_6 : decode cX10_improveOnce 6 = .ok (.getfield 132, 3) := by decide +kernel
theorem dX10_improveOnce_9 : decode cX10_improveOnce 9 = .ok (.if_icmp .ge 68, 3) := by decide +kernel
theorem dX10_improveOnce_12 : decode cX10_improveOnce 12 = .ok (.iconst 0, 1) := by decide +kernel
theorem dX10_improveOnce_13 : decode cX10_improveOnce 13 = .ok (.istore_n 3, 1) := by decide +kernel
theorem dX10_improveOnce_14 : decode cX10_improveOnce 14 = .ok (.iload_n 3, 1) := by decide +kernel
theorem dX10_improveOnce_15 : decode cX10_improveOnce 15 = .ok (.iconst 1, 1) := by decide +kernel
theorem dX10_improveOnce_16 : decode cX10_improveOnce 16 = .ok (.iadd, 1) := by decide +kernel
theorem dX10_improveOnce_17 : decode cX10_improveOnce 17 = .ok (.aload_n 0, 1) := by decide +kernel
theorem dX10_improveOnce_18 : decode cX10_improveOnce 18 = .ok (.getfield 32, 3) := by decide +kernel
theorem dX10_improveOnce_21 : decode cX10_improveOnce 21 = .ok (.iload_n 2, 1) := by decide +kernel
theorem dX10_improveOnce_22 : decode cX10_improveOnce 22 = .ok (.iaload, 1) := by decide +kernel
theorem dX10_improveOnce_23 : decode cX10_improveOnce 23 = .ok (.if_icmp .ge 48, 3) := by decide +kernel
theorem dX10_improveOnce_26 : decode cX10_improveOnce 26 = .ok (.aload_n 0, 1) := by decide +kernel
theorem dX10_improveOnce_27 : decode cX10_improveOnce 27 = .ok (.invokevirtual 297, 3) := by decide +kernel
theorem dX10_improveOnce_30 : decode cX10_improveOnce 30 = .ok (.istore 4, 2) := by decide +kernel
theorem dX10_improveOnce_32 : decode cX10_improveOnce 32 = .ok (.aload_n 0, 1) := by decide +kernel
theorem dX10_improveOnce_33 : decode cX10_improveOnce 33 = .ok (.iload_n 2, 1) := by decide +kernel
theorem dX10_improveOnce_34 : decode cX10_improveOnce 34 = .ok (.iload_n 3, 1) := by decide +kernel
theorem dX10_improveOnce_35 : decode cX10_improveOnce 35 = .ok (.iload_n 3, 1) := by decide +kernel
theorem dX10_improveOnce_36 : decode cX10_improveOnce 36 = .ok (.iconst 1, 1) := by decide +kernel
theorem dX10_improveOnce_37 : decode cX10_improveOnce 37 = .ok (.iadd, 1) := by decide +kernel
theorem dX10_improveOnce_38 : decode cX10_improveOnce 38 = .ok (.invokevirtual 300, 3) := by decide +kernel
theorem dX10_improveOnce_41 : decode cX10_improveOnce 41 = .ok (.aload_n 0, 1) := by decide +kernel
theorem dX10_improveOnce_42 : decode cX10_improveOnce 42 = .ok (.invokevirtual 297, 3) := by decide +kernel
theorem dX10_improveOnce_45 : decode cX10_improveOnce 45 = .ok (.iload 4, 2) := by decide +kernel
theorem dX10_improveOnce_47 : decode cX10_improveOnce 47 = .ok (.if_icmp .ge 9, 3) := by decide +kernel
theorem dX10_improveOnce_50 : decode cX10_improveOnce 50 = .ok (.iinc 1 1, 3) := by decide +kernel
theorem dX10_improveOnce_53 : decode cX10_improveOnce 53 = .ok (.goto 12, 3) := by decide +kernel
theorem dX10_improveOnce_56 : decode cX10_improveOnce 56 = .ok (.aload_n 0, 1) := by decide +kernel
theorem dX10_improveOnce_57 : decode cX10_improveOnce 57 = .ok (.iload_n 2, 1) := by decide +kernel
theorem dX10_improveOnce_58 : decode cX10_improveOnce 58 = .ok (.iload_n 3, 1) := by decide +kernel
theorem dX10_improveOnce_59 : decode cX10_improveOnce 59 = .ok (.iload_n 3, 1) := by decide +kernel
theorem dX10_improveOnce_60 : decode cX10_improveOnce 60 = .ok (.iconst 1, 1) := by decide +kernel
theorem dX10_improveOnce_61 : decode cX10_improveOnce 61 = .ok (.iadd, 1) := by decide +kernel
theorem dX10_improveOnce_62 : decode cX10_improveOnce 62 = .ok (.invokevirtual 300, 3) := by decide +kernel
theorem dX10_improveOnce_65 : decode cX10_improveOnce 65 = .ok (.iinc 3 1, 3) := by decide +kernel
theorem dX10_improveOnce_68 : decode cX10_improveOnce 68 = .ok (.goto (-54), 3) := by decide +kernel
theorem dX10_improveOnce_71 : decode cX10_improveOnce 71 = .ok (.iinc 2 1, 3) := by decide +kernel
theorem dX10_improveOnce_74 : decode cX10_improveOnce 74 = .ok (.goto (-70), 3) := by decide +kernel
theorem dX10_improveOnce_77 : decode cX10_improveOnce 77 = .ok (.iload_n 1, 1) := by decide +kernel
theorem dX10_improveOnce_78 : decode cX10_improveOnce 78 = .ok (.ireturn, 1) := by decide +kernel
theorem dX10_improve_0 : decode cX10_improve 0 = .ok (.aload_n 0, 1) := by decide +kernel
theorem dX10_improve_1 : decode cX10_improve 1 = .ok (.iconst 0, 1) := by decide +kernel
theorem dX10_improve_2 : decode cX10_improve 2 = .ok (.putfield 95, 3) := by decide +kernel
theorem dX10_improve_5 : decode cX10_improve 5 = .ok (.iload_n 1, 1) := by decide +kernel
theorem dX10_improve_6 : decode cX10_improve 6 = .ok (.i2l, 1) := by decide +kernel
theorem dX10_improve_7 : decode cX10_improve 7 = .ok (.lconst 0, 1) := by decide +kernel
theorem dX10_improve_8 : decode cX10_improve 8 = .ok (.ldc2_w 343, 3) := by decide +kernel
theorem dX10_improve_11 : decode cX10_improve 11 = .ok (.invokestatic 106, 3) := by decide +kernel
theorem dX10_improve_14 : decode cX10_improve 14 = .ok (.ifCond .ne 9, 3) := by decide +kernel
theorem dX10_improve_17 : decode cX10_improve 17 = .ok (.aload_n 0, 1) := by decide +kernel
theorem dX10_improve_18 : decode cX10_improve 18 = .ok (.iconst 1, 1) := by decide +kernel
theorem dX10_improve_19 : decode cX10_improve 19 = .ok (.invokevirtual 240, 3) := by decide +kernel
theorem dX10_improve_22 : decode cX10_improve 22 = .ok (.ireturn, 1) := by decide +kernel
theorem dX10_improve_23 : decode cX10_improve 23 = .ok (.aload_n 0, 1) := by decide +kernel
theorem dX10_improve_24 : decode cX10_improve 24 = .ok (.invokevirtual 327, 3) := by decide +kernel
theorem dX10_improve_27 : decode cX10_improve 27 = .ok (.aload_n 0, 1) := by decide +kernel
theorem dX10_improve_28 : decode cX10_improve 28 = .ok (.invokevirtual 190, 3) := by decide +kernel
theorem dX10_improve_31 : decode cX10_improve 31 = .ok (.iconst 0, 1) := by decide +kernel
theorem dX10_improve_32 : decode cX10_improve 32 = .ok (.istore_n 2, 1) := by decide +kernel
theorem dX10_improve_33 : decode cX10_improve 33 = .ok (.iconst 1, 1) := by decide +kernel
theorem dX10_improve_34 : decode cX10_improve 34 = .ok (.istore_n 3, 1) := by decide +kernel
theorem dX10_improve_35 : decode cX10_improve 35 = .ok (.iconst 0, 1) := by decide +kernel
theorem dX10_improve_36 : decode cX10_improve 36 = .ok (.istore 4, 2) := by decide +kernel
theorem dX10_improve_38 : decode cX10_improve 38 = .ok (.iload 4, 2) := by decide +kernel
theorem dX10_improve_40 : decode cX10_improve 40 = .ok (.iload_n 1, 1) := by decide +kernel
theorem dX10_improve_41 : decode cX10_improve 41 = .ok (.if_icmp .ge 22, 3) := by decide +kernel
theorem dX10_improve_44 : decode cX10_improve 44 = .ok (.iload_n 3, 1) := by decide +kernel
theorem dX10_improve_45 : decode cX10_improve 45 = .ok (.ifCond .le 18, 3) := by decide +kernel
theorem dX10_improve_48 : decode cX10_improve 48 = .ok (.aload_n 0, 1) := by decide +kernel
theorem dX10_improve_49 : decode cX10_improve 49 = .ok (.invokevirtual 345, 3) := by decide +kernel
theorem dX10_improve_52 : decode cX10_improve 52 = .ok (.istore_n 3, 1) := by decide +kernel
theorem dX10_improve_53 : decode cX10_improve 53 = .ok (.iload_n 2, 1) := by decide +kernel
theorem dX10_improve_54 : decode cX10_improve 54 = .ok (.iload_n 3, 1) := by decide +kernel
theorem dX10_improve_55 : decode cX10_improve 55 = .ok (.iadd, 1) := by decide +kernel
theorem dX10_improve_56 : decode cX10_improve 56 = .ok (.istore_n 2, 1) := by decide +kernel
theorem dX10_improve_57 : decode cX10_improve 57 = .ok (.iinc 4 1, 3) := by decide +kernel
theorem dX10_improve_60 : decode cX10_improve 60 = .ok (.goto (-22), 3) := by decide +kernel
theorem dX10_improve_63 : decode cX10_improve 63 = .ok (.iload_n 2, 1) := by decide +kernel
theorem dX10_improve_64 : decode cX10_improve 64 = .ok (.ireturn, 1) := by decide +kernel
theorem dX10_mainKey_0 : decode cX10_mainKey 0 = .ok (.aload_n 0, 1) := by decide +kernel
theorem dX10_mainKey_1 : decode cX10_mainKey 1 = .ok (.iload_n 1, 1) := by decide +kernel
theorem dX10_mainKey_2 : decode cX10_mainKey 2 = .ok (.invokevirtual 117, 3) := by decide +kernel
theorem dX10_mainKey_5 : decode cX10_mainKey 5 = .ok (.iconst (-1), 1) := by decide +kernel
theorem dX10_mainKey_6 : decode cX10_mainKey 6 = .ok (.if_icmp .ne 9, 3) := by decide +kernel
theorem dX10_mainKey_9 : decode cX10_mainKey 9 = .ok (.sipush 1000, 3) := by decide +kernel
theorem dX10_mainKey_12 : decode cX10_mainKey 12 = .ok (.goto 12, 3) := by decide +kernel
theorem dX10_mainKey_15 : decode cX10_mainKey 15 = .ok (.aload_n 0, 1) := by decide +kernel
theorem dX10_mainKey_16 : decode cX10_mainKey 16 = .ok (.aload_n 0, 1) := by decide +kernel
theorem dX10_mainKey_17 : decode cX10_mainKey 17 = .ok (.iload_n 1, 1) := by decide +kernel
theorem dX10_mainKey_18 : decode cX10_mainKey 18 = .ok (.invokevirtual 117, 3) := by decide +kernel
theorem dX10_mainKey_21 : decode cX10_mainKey 21 = .ok (.invokevirtual 169, 3) := by decide +kernel
theorem dX10_mainKey_24 : decode cX10_mainKey 24 = .ok (.ireturn, 1) := by decide +kernel
theorem dX10_keyOf_0 : decode cX10_keyOf 0 = .ok (.iload_n 1, 1) := by decide +kernel
theorem dX10_keyOf_1 : decode cX10_keyOf 1 = .ok (.bipush 16, 2) := by decide +kernel
theorem dX10_keyOf_3 : decode cX10_keyOf 3 = .ok (.if_icmp .ge 9, 3) := by decide +kernel
theorem dX10_keyOf_6 : decode cX10_keyOf 6 = .ok (.aload_n 0, 1) := by decide +kernel
theorem dX10_keyOf_7 : decode cX10_keyOf 7 = .ok (.iload_n 1, 1) := by decide +kernel
theorem dX10_keyOf_8 : decode cX10_keyOf 8 = .ok (.invokevirtual 348, 3) := by decide +kernel
theorem dX10_keyOf_11 : decode cX10_keyOf 11 = .ok (.ireturn, 1) := by decide +kernel
theorem dX10_keyOf_12 : decode cX10_keyOf 12 = .ok (.iload_n 1, 1) := by decide +kernel
theorem dX10_keyOf_13 : decode cX10_keyOf 13 = .ok (.bipush 16, 2) := by decide +kernel
theorem dX10_keyOf_15 : decode cX10_keyOf 15 = .ok (.isub, 1) := by decide +kernel
theorem dX10_keyOf_16 : decode cX10_keyOf 16 = .ok (.istore_n 2, 1) := by decide +kernel
theorem dX10_keyOf_17 : decode cX10_keyOf 17 = .ok (.aload_n 0, 1) := by decide +kernel
theorem dX10_keyOf_18 : decode cX10_keyOf 18 = .ok (.iload_n 2, 1) := by decide +kernel
theorem dX10_keyOf_19 : decode cX10_keyOf 19 = .ok (.iconst 0, 1) := by decide +kernel
theorem dX10_keyOf_20 : decode cX10_keyOf 20 = .ok (.invokevirtual 102, 3) := by decide +kernel
theorem dX10_keyOf_23 : decode cX10_keyOf 23 = .ok (.aload_n 0, 1) := by decide +kernel
theorem dX10_keyOf_24 : decode cX10_keyOf 24 = .ok (.iload_n 2, 1) := by decide +kernel
theorem dX10_keyOf_25 : decode cX10_keyOf 25 = .ok (.invokevirtual 135, 3) := by decide +kernel
theorem dX10_keyOf_28 : decode cX10_keyOf 28 = .ok (.if_icmp .ne 12, 3) := by decide +kernel
theorem dX10_keyOf_31 : decode cX10_keyOf 31 = .ok (.aload_n 0, 1) := by decide +kernel
theorem dX10_keyOf_32 : decode cX10_keyOf 32 = .ok (.iload_n 2, 1) := by decide +kernel
theorem dX10_keyOf_33 : decode cX10_keyOf 33 = .ok (.iconst 1, 1) := by decide +kernel
theorem dX10_keyOf_34 : decode cX10_keyOf 34 = .ok (.invokevirtual 102, 3) := by decide +kernel
theorem dX10_keyOf_37 : decode cX10_keyOf 37 = .ok (.goto 9, 3) := by decide +kernel
theorem dX10_keyOf_40 : decode cX10_keyOf 40 = .ok (.aload_n 0, 1) := by decide +kernel
theorem dX10_keyOf_41 : decode cX10_keyOf 41 = .ok (.iload_n 2, 1) := by decide +kernel
theorem dX10_keyOf_42 : decode cX10_keyOf 42 = .ok (.iconst 0, 1) := by decide +kernel
theorem dX10_keyOf_43 : decode cX10_keyOf 43 = .ok (.invokevirtual 102, 3) := by decide +kernel
theorem dX10_keyOf_46 : decode cX10_keyOf 46 = .ok (.istore_n 3, 1) := by decide +kernel
theorem dX10_keyOf_47 : decode cX10_keyOf 47 = .ok (.aload_n 0, 1) := by decide +kernel
theorem dX10_keyOf_48 : decode cX10_keyOf 48 = .ok (.iload_n 3, 1) := by decide +kernel
theorem dX10_keyOf_49 : decode cX10_keyOf 49 = .ok (.invokevirtual 348, 3) := by decide +kernel
theorem dX10_keyOf_52 : decode cX10_keyOf 52 = .ok (.ireturn, 1) := by decide +kernel
theorem dX10_arrange_0 : decode cX10_arrange 0 = .ok (.aload_n 0, 1) := by decide +kernel
theorem dX10_arrange_1 : decode cX10_arrange 1 = .ok (.iconst 0, 1) := by decide +kernel
theorem dX10_arrange_2 : decode cX10_arrange 2 = .ok (.putfield 95, 3) := by decide +kernel
theorem dX10_arrange_5 : decode cX10_arrange 5 = .ok (.aload_n 0, 1) := by decide +kernel
theorem dX10_arrange_6 : decode cX10_arrange 6 = .ok (.invokevirtual 327, 3) := by decide +kernel
theorem dX10_arrange_9 : decode cX10_arrange 9 = .ok (.aload_n 0, 1) := by decide +kernel
theorem dX10_arrange_10 : decode cX10_arrange 10 = .ok (.invokevirtual 190, 3) := by decide +kernel
theorem dX10_arrange_13 : decode cX10_arrange 13 = .ok (.iconst 1, 1) := by decide +kernel
theorem dX10_arrange_14 : decode cX10_arrange 14 = .ok (.istore_n 1, 1) := by decide +kernel
theorem dX10_arrange_15 : decode cX10_arrange 15 = .ok (.iload_n 1, 1) := by decide +kernel
theorem dX10_arrange_16 : decode cX10_arrange 16 = .ok (.aload_n 0, 1) := by decide +kernel
theorem dX10_arrange_17 : decode cX10_arrange 17 = .ok (.getfield 132, 3) := by decide +kernel
theorem dX10_arrange_20 : decode cX10_arrange 20 = .ok (.if_icmp .ge 73, 3) := by decide +kernel
theorem dX10_arrange_23 : decode cX10_arrange 23 = .ok (.iconst 1, 1) := by decide +kernel
theorem dX10_arrange_24 : decode cX10_arrange 24 = .ok (.istore_n 2, 1) := by decide +kernel
theorem dX10_arrange_25 : decode cX10_arrange 25 = .ok (.iload_n 2, 1) := by decide +kernel
theorem dX10_arrange_26 : decode cX10_arrange 26 = .ok (.aload_n 0, 1) := by decide +kernel
theorem dX10_arrange_27 : decode cX10_arrange 27 = .ok (.getfield 32, 3) := by decide +kernel
theorem dX10_arrange_30 : decode cX10_arrange 30 = .ok (.iload_n 1, 1) := by decide +kernel
theorem dX10_arrange_31 : decode cX10_arrange 31 = .ok (.iaload, 1) := by decide +kernel
theorem dX10_arrange_32 : decode cX10_arrange 32 = .ok (.if_icmp .ge 55, 3) := by decide +kernel
theorem dX10_arrange_35 : decode cX10_arrange 35 = .ok (.iload_n 2, 1) := by decide +kernel
theorem dX10_arrange_36 : decode cX10_arrange 36 = .ok (.istore_n 3, 1) := by decide +kernel
theorem dX10_arrange_37 : decode cX10_arrange 37 = .ok (.iload_n 3, 1) := by decide +kernel
theorem dX10_arrange_38 : decode cX10_arrange 38 = .ok (.ifCond .le 43, 3) := by decide +kernel
theorem dX10_arrange_41 : decode cX10_arrange 41 = .ok (.aload_n 0, 1) := by decide +kernel
theorem dX10_arrange_42 : decode cX10_arrange 42 = .ok (.aload_n 0, 1) := by decide +kernel
theorem dX10_arrange_43 : decode cX10_arrange 43 = .ok (.iload_n 1, 1) := by decide +kernel
theorem dX10_arrange_44 : decode cX10_arrange 44 = .ok (.iload_n 3, 1) := by decide +kernel
theorem dX10_arrange_45 : decode cX10_arrange 45 = .ok (.iconst 1, 1) := by decide +kernel
theorem dX10_arrange_46 : decode cX10_arrange 46 = .ok (.isub, 1) := by decide +kernel
theorem dX10_arrange_47 : decode cX10_arrange 47 = .ok (.invokevirtual 153, 3) := by decide +kernel
theorem dX10_arrange_50 : decode cX10_arrange 50 = .ok (.invokevirtual 351, 3) := by decide +kernel
theorem dX10_arrange_53 : decode cX10_arrange 53 = .ok (.aload_n 0, 1) := by decide +kernel
theorem dX10_arrange_54 : decode cX10_arrange 54 = .ok (.aload_n 0, 1) := by decide +kernel
theorem dX10_arrange_55 : decode cX10_arrange 55 = .ok (.iload_n 1, 1) := by decide +kernel
theorem dX10_arrange_56 : decode cX10_arrange 56 = .ok (.iload_n 3, 1) := by decide +kernel
theorem dX10_arrange_57 : decode cX10_arrange 57 = .ok (.invokevirtual 153, 3) := by decide +kernel
theorem dX10_arrange_60 : decode cX10_arrange 60 = .ok (.invokevirtual 351, 3) := by decide +kernel
theorem dX10_arrange_63 : decode cX10_arrange 63 = .ok (.if_icmp .le 18, 3) := by decide +kernel
theorem dX10_arrange_66 : decode cX10_arrange 66 = .ok (.aload_n 0, 1) := by decide +kernel
theorem dX10_arrange_67 : decode cX10_arrange 67 = .ok (.iload_n 1, 1) := by decide +kernel
theorem dX10_arrange_68 : decode cX10_arrange 68 = .ok (.iload_n 3, 1) := by decide +kernel
theorem dX10_arrange_69 : decode cX10_arrange 69 = .ok (.iconst 1, 1) := by decide +kernel
theorem dX10_arrange_70 : decode cX10_arrange 70 = .ok (.isub, 1) := by decide +kernel
theorem dX10_arrange_71 : decode cX10_arrange 71 = .ok (.iload_n 3, 1) := by decide +kernel
theorem dX10_arrange_72 : decode cX10_arrange 72 = .ok (.invokevirtual 300, 3) := by decide +kernel
theorem dX10_arrange_75 : decode cX10_arrange 75 = .ok (.iinc 3 (-1), 3) := by decide +kernel
theorem dX10_arrange_78 : decode cX10_arrange 78 = .ok (.goto (-41), 3) := by decide +kernel
theorem dX10_arrange_81 : decode cX10_arrange 81 = .ok (.iinc 2 1, 3) := by decide +kernel
theorem dX10_arrange_84 : decode cX10_arrange 84 = .ok (.goto (-59), 3) := by decide +kernel
theorem dX10_arrange_87 : decode cX10_arrange 87 = .ok (.iinc 1 1, 3) := by decide +kernel
theorem dX10_arrange_90 : decode cX10_arrange 90 = .ok (.goto (-75), 3) := by decide +kernel
theorem dX10_arrange_93 : decode cX10_arrange 93 = .ok (.aload_n 0, 1) := by decide +kernel
theorem dX10_arrange_94 : decode cX10_arrange 94 = .ok (.invokevirtual 297, 3) := by decide +kernel
theorem dX10_arrange_97 : decode cX10_arrange 97 = .ok (.ireturn, 1) := by decide +kernel
theorem dX10_plain_0 : decode cX10_plain 0 = .ok (.aload_n 0, 1) := by decide +kernel
theorem dX10_plain_1 : decode cX10_plain 1 = .ok (.iconst 0, 1) := by decide +kernel
theorem dX10_plain_2 : decode cX10_plain 2 = .ok (.putfield 95, 3) := by decide +kernel
theorem dX10_plain_5 : decode cX10_plain 5 = .ok (.aload_n 0, 1) := by decide +kernel
theorem dX10_plain_6 : decode cX10_plain 6 = .ok (.invokevirtual 327, 3) := by decide +kernel
theorem dX10_plain_9 : decode cX10_plain 9 = .ok (.aload_n 0, 1) := by decide +kernel
theorem dX10_plain_10 : decode cX10_plain 10 = .ok (.invokevirtual 333, 3) := by decide +kernel
theorem dX10_plain_13 : decode cX10_plain 13 = .ok (.return_, 1) := by decide +kernel
theorem dX10_copy_0 : decode cX10_copy 0 = .ok (.iconst 0, 1) := by decide +kernel
theorem dX10_copy_1 : decode cX10_copy 1 = .ok (.istore 4, 2) := by decide +kernel
theorem dX10_copy_3 : decode cX10_copy 3 = .ok (.iload 4, 2) := by decide +kernel
theorem dX10_copy_5 : decode cX10_copy 5 = .ok (.sipush 130, 3) := by decide +kernel
theorem dX10_copy_8 : decode cX10_copy 8 = .ok (.if_icmp .ge 29, 3) := by decide +kernel
theorem dX10_copy_11 : decode cX10_copy 11 = .ok (.aload_n 2, 1) := by decide +kernel
theorem dX10_copy_12 : decode cX10_copy 12 = .ok (.sipush 130, 3) := by decide +kernel
theorem dX10_copy_15 : decode cX10_copy 15 = .ok (.iload_n 3, 1) := by decide +kernel
theorem dX10_copy_16 : decode cX10_copy 16 = .ok (.imul, 1) := by decide +kernel
theorem dX10_copy_17 : decode cX10_copy 17 = .ok (.iload 4, 2) := by decide +kernel
theorem dX10_copy_19 : decode cX10_copy 19 = .ok (.iadd, 1) := by decide +kernel
theorem dX10_copy_20 : decode cX10_copy 20 = .ok (.aload_n 0, 1) := by decide +kernel
theorem dX10_copy_21 : decode cX10_copy 21 = .ok (.sipush 130, 3) := by decide +kernel
theorem dX10_copy_24 : decode cX10_copy 24 = .ok (.iload_n 1, 1) := by decide +kernel
theorem dX10_copy_25 : decode cX10_copy 25 = .ok (.imul, 1) := by decide +kernel
theorem dX10_copy_26 : decode cX10_copy 26 = .ok (.iload 4, 2) := by decide +kernel
theorem dX10_copy_28 : decode cX10_copy 28 = .ok (.iadd, 1) := by decide +kernel
theorem dX10_copy_29 : decode cX10_copy 29 = .ok (.laload, 1) := by decide +kernel
theorem dX10_copy_30 : decode cX10_copy 30 = .ok (.lastore, 1) := by decide +kernel
theorem dX10_copy_31 : decode cX10_copy 31 = .ok (.iinc 4 1, 3) := by decide +kernel
theorem dX10_copy_34 : decode cX10_copy 34 = .ok (.goto (-31), 3) := by decide +kernel
theorem dX10_copy_37 : decode cX10_copy 37 = .ok (.return_, 1) := by decide +kernel
theorem dX10_record_0 : decode cX10_record 0 = .ok (.aload_n 0, 1) := by decide +kernel
theorem dX10_record_1 : decode cX10_record 1 = .ok (.getfield 354, 3) := by decide +kernel
theorem dX10_record_4 : decode cX10_record 4 = .ok (.bipush 10, 2) := by decide +kernel
theorem dX10_record_6 : decode cX10_record 6 = .ok (.if_icmp .ne 42, 3) := by decide +kernel
theorem dX10_record_9 : decode cX10_record 9 = .ok (.iconst 1, 1) := by decide +kernel
theorem dX10_record_10 : decode cX10_record 10 = .ok (.istore_n 1, 1) := by decide +kernel
theorem dX10_record_11 : decode cX10_record 11 = .ok (.iload_n 1, 1) := by decide +kernel
theorem dX10_record_12 : decode cX10_record 12 = .ok (.bipush 10, 2) := by decide +kernel
theorem dX10_record_14 : decode cX10_record 14 = .ok (.if_icmp .ge 24, 3) := by decide +kernel
theorem dX10_record_17 : decode cX10_record 17 = .ok (.aload_n 0, 1) := by decide +kernel
theorem dX10_record_18 : decode cX10_record 18 = .ok (.getfield 19, 3) := by decide +kernel
theorem dX10_record_21 : decode cX10_record 21 = .ok (.iload_n 1, 1) := by decide +kernel
theorem dX10_record_22 : decode cX10_record 22 = .ok (.aload_n 0, 1) := by decide +kernel
theorem dX10_record_23 : decode cX10_record 23 = .ok (.getfield 19, 3) := by decide +kernel
theorem dX10_record_26 : decode cX10_record 26 = .ok (.iload_n 1, 1) := by decide +kernel
theorem dX10_record_27 : decode cX10_record 27 = .ok (.iconst 1, 1) := by decide +kernel
theorem dX10_record_28 : decode cX10_record 28 = .ok (.isub, 1) := by decide +kernel
theorem dX10_record_29 : decode cX10_record 29 = .ok (.invokestatic 357, 3) := by decide +kernel
theorem dX10_record_32 : decode cX10_record 32 = .ok (.iinc 1 1, 3) := by decide +kernel
theorem dX10_record_35 : decode cX10_record 35 = .ok (.goto (-24), 3) := by decide +kernel
theorem dX10_record_38 : decode cX10_record 38 = .ok (.aload_n 0, 1) := by decide +kernel
theorem dX10_record_39 : decode cX10_record 39 = .ok (.dup, 1) := by decide +kernel
theorem dX10_record_40 : decode cX10_record 40 = .ok (.getfield 354, 3) := by decide +kernel
theorem dX10_record_43 : decode cX10_record 43 = .ok (.iconst 1, 1) := by decide +kernel
theorem dX10_record_44 : decode cX10_record 44 = .ok (.isub, 1) := by decide +kernel
theorem dX10_record_45 : decode cX10_record 45 = .ok (.putfield 354, 3) := by decide +kernel
theorem dX10_record_48 : decode cX10_record 48 = .ok (.aload_n 0, 1) := by decide +kernel
theorem dX10_record_49 : decode cX10_record 49 = .ok (.getfield 9, 3) := by decide +kernel
theorem dX10_record_52 : decode cX10_record 52 = .ok (.iconst 0, 1) := by decide +kernel
theorem dX10_record_53 : decode cX10_record 53 = .ok (.aload_n 0, 1) := by decide +kernel
theorem dX10_record_54 : decode cX10_record 54 = .ok (.getfield 19, 3) := by decide +kernel
theorem dX10_record_57 : decode cX10_record 57 = .ok (.aload_n 0, 1) := by decide +kernel
theorem dX10_record_58 : decode cX10_record 58 = .ok (.getfield 354, 3) := by decide +kernel
theorem dX10_record_61 : decode cX10_record 61 = .ok (.invokestatic 357, 3) := by decide +kernel
theorem dX10_record_64 : decode cX10_record 64 = .ok (.aload_n 0, 1) := by decide +kernel
theorem dX10_record_65 : decode cX10_record 65 = .ok (.dup, 1) := by decide +kernel
theorem dX10_record_66 : decode cX10_record 66 = .ok (.getfield 354, 3) := by decide +kernel
theorem dX10_record_69 : decode cX10_record 69 = .ok (.iconst 1, 1) := by decide +kernel
theorem dX10_record_70 : decode cX10_record 70 = .ok (.iadd, 1) := by decide +kernel
theorem dX10_record_71 : decode cX10_record 71 = .ok (.putfield 354, 3) := by decide +kernel
theorem dX10_record_74 : decode cX10_record 74 = .ok (.return_, 1) := by decide +kernel
theorem dX10_undoCount_0 : decode cX10_undoCount 0 = .ok (.aload_n 0, 1) := by decide +kernel
theorem dX10_undoCount_1 : decode cX10_undoCount 1 = .ok (.iconst 0, 1) := by decide +kernel
theorem dX10_undoCount_2 : decode cX10_undoCount 2 = .ok (.putfield 95, 3) := by decide +kernel
theorem dX10_undoCount_5 : decode cX10_undoCount 5 = .ok (.aload_n 0, 1) := by decide +kernel
theorem dX10_undoCount_6 : decode cX10_undoCount 6 = .ok (.getfield 354, 3) := by decide +kernel
theorem dX10_undoCount_9 : decode cX10_undoCount 9 = .ok (.ireturn, 1) := by decide +kernel
theorem dX10_undo_0 : decode cX10_undo 0 = .ok (.aload_n 0, 1) := by decide +kernel
theorem dX10_undo_1 : decode cX10_undo 1 = .ok (.iconst 0, 1) := by decide +kernel
theorem dX10_undo_2 : decode cX10_undo 2 = .ok (.putfield 95, 3) := by decide +kernel
theorem dX10_undo_5 : decode cX10_undo 5 = .ok (.aload_n 0, 1) := by decide +kernel
theorem dX10_undo_6 : decode cX10_undo 6 = .ok (.getfield 354, 3) := by decide +kernel
theorem dX10_undo_9 : decode cX10_undo 9 = .ok (.ifCond .ne 5, 3) := by decide +kernel
theorem dX10_undo_12 : decode cX10_undo 12 = .ok (.iconst (-1), 1) := by decide +kernel
theorem dX10_undo_13 : decode cX10_undo 13 = .ok (.ireturn, 1) := by decide +kernel
theorem dX10_undo_14 : decode cX10_undo 14 = .ok (.aload_n 0, 1) := by decide +kernel
theorem dX10_undo_15 : decode cX10_undo 15 = .ok (.dup, 1) := by decide +kernel
theorem dX10_undo_16 : decode cX10_undo 16 = .ok (.getfield 354, 3) := by decide +kernel
theorem dX10_undo_19 : decode cX10_undo 19 = .ok (.iconst 1, 1) := by decide +kernel
theorem dX10_undo_20 : decode cX10_undo 20 = .ok (.isub, 1) := by decide +kernel
theorem dX10_undo_21 : decode cX10_undo 21 = .ok (.putfield 354, 3) := by decide +kernel
theorem dX10_undo_24 : decode cX10_undo 24 = .ok (.aload_n 0, 1) := by decide +kernel
theorem dX10_undo_25 : decode cX10_undo 25 = .ok (.getfield 19, 3) := by decide +kernel
theorem dX10_undo_28 : decode cX10_undo 28 = .ok (.aload_n 0, 1) := by decide +kernel
theorem dX10_undo_29 : decode cX10_undo 29 = .ok (.getfield 354, 3) := by decide +kernel
theorem dX10_undo_32 : decode cX10_undo 32 = .ok (.aload_n 0, 1) := by decide +kernel
theorem dX10_undo_33 : decode cX10_undo 33 = .ok (.getfield 9, 3) := by decide +kernel
theorem dX10_undo_36 : decode cX10_undo 36 = .ok (.iconst 0, 1) := by decide +kernel
theorem dX10_undo_37 : decode cX10_undo 37 = .ok (.invokestatic 357, 3) := by decide +kernel
theorem dX10_undo_40 : decode cX10_undo 40 = .ok (.aload_n 0, 1) := by decide +kernel
theorem dX10_undo_41 : decode cX10_undo 41 = .ok (.getfield 354, 3) := by decide +kernel
theorem dX10_undo_44 : decode cX10_undo 44 = .ok (.ireturn, 1) := by decide +kernel
theorem dX10_saveSnapshot_0 : decode cX10_saveSnapshot 0 = .ok (.aload_n 0, 1) := by decide +kernel
theorem dX10_saveSnapshot_1 : decode cX10_saveSnapshot 1 = .ok (.iconst 0, 1) := by decide +kernel
theorem dX10_saveSnapshot_2 : decode cX10_saveSnapshot 2 = .ok (.putfield 95, 3) := by decide +kernel
theorem dX10_saveSnapshot_5 : decode cX10_saveSnapshot 5 = .ok (.aload_n 0, 1) := by decide +kernel
theorem dX10_saveSnapshot_6 : decode cX10_saveSnapshot 6 = .ok (.getfield 9, 3) := by decide +kernel
theorem dX10_saveSnapshot_9 : decode cX10_saveSnapshot 9 = .ok (.iconst 0, 1) := by decide +kernel
theorem dX10_saveSnapshot_10 : decode cX10_saveSnapshot 10 = .ok (.aload_n 0, 1) := by decide +kernel
theorem dX10_saveSnapshot_11 : decode cX10_saveSnapshot 11 = .ok (.getfield 16, 3) := by decide +kernel
theorem dX10_saveSnapshot_14 : decode cX10_saveSnapshot 14 = .ok (.iconst 0, 1) := by decide +kernel
theorem dX10_saveSnapshot_15 : decode cX10_saveSnapshot 15 = .ok (.invokestatic 357, 3) := by decide +kernel
theorem dX10_saveSnapshot_18 : decode cX10_saveSnapshot 18 = .ok (.aload_n 0, 1) := by decide +kernel
theorem dX10_saveSnapshot_19 : decode cX10_saveSnapshot 19 = .ok (.iconst 1, 1) := by decide +kernel
theorem dX10_saveSnapshot_20 : decode cX10_saveSnapshot 20 = .ok (.putfield 361, 3) := by decide +kernel
theorem dX10_saveSnapshot_23 : decode cX10_saveSnapshot 23 = .ok (.return_, 1) := by decide +kernel
theorem dX10_restoreSnapshot_0 : decode cX10_restoreSnapshot 0 = .ok (.aload_n 0, 1) := by decide +kernel
theorem dX10_restoreSnapshot_1 : decode cX10_restoreSnapshot 1 = .ok (.iconst 0, 1) := by decide +kernel
theorem dX10_restoreSnapshot_2 : decode cX10_restoreSnapshot 2 = .ok (.putfield 95, 3) := by decide +kernel
theorem dX10_restoreSnapshot_5 : decode cX10_restoreSnapshot 5 = .ok (.aload_n 0, 1) := by decide +kernel
theorem dX10_restoreSnapshot_6 : decode cX10_restoreSnapshot 6 = .ok (.getfield 361, 3) := by decide +kernel
theorem dX10_restoreSnapshot_9 : decode cX10_restoreSnapshot 9 = .ok (.ifCond .ne 5, 3) := by decide +kernel
theorem dX10_restoreSnapshot_12 : decode cX10_restoreSnapshot 12 = .ok (.iconst 0, 1) := by decide +kernel
theorem dX10_restoreSnapshot_13 : decode cX10_restoreSnapshot 13 = .ok (.ireturn, 1) := by decide +kernel
theorem dX10_restoreSnapshot_14 : decode cX10_restoreSnapshot 14 = .ok (.aload_n 0, 1) := by decide +kernel
theorem dX10_restoreSnapshot_15 : decode cX10_restoreSnapshot 15 = .ok (.getfield 16, 3) := by decide +kernel
theorem dX10_restoreSnapshot_18 : decode cX10_restoreSnapshot 18 = .ok (.iconst 0, 1) := by decide +kernel
theorem dX10_restoreSnapshot_19 : decode cX10_restoreSnapshot 19 = .ok (.aload_n 0, 1) := by decide +kernel
theorem dX10_restoreSnapshot_20 : decode cX10_restoreSnapshot 20 = .ok (.getfield 9, 3) := by decide +kernel
theorem dX10_restoreSnapshot_23 : decode cX10_restoreSnapshot 23 = .ok (.iconst 0, 1) := by decide +kernel
theorem dX10_restoreSnapshot_24 : decode cX10_restoreSnapshot 24 = .ok (.invokestatic 357, 3) := by decide +kernel
theorem dX10_restoreSnapshot_27 : decode cX10_restoreSnapshot 27 = .ok (.aload_n 0, 1) := by decide +kernel
theorem dX10_restoreSnapshot_28 : decode cX10_restoreSnapshot 28 = .ok (.iconst 0, 1) := by decide +kernel
theorem dX10_restoreSnapshot_29 : decode cX10_restoreSnapshot 29 = .ok (.putfield 354, 3) := by decide +kernel
theorem dX10_restoreSnapshot_32 : decode cX10_restoreSnapshot 32 = .ok (.iconst 1, 1) := by decide +kernel
theorem dX10_restoreSnapshot_33 : decode cX10_restoreSnapshot 33 = .ok (.ireturn, 1) := by decide +kernel
theorem dX10_feed_0 : decode cX10_feed 0 = .ok (.aload_n 0, 1) := by decide +kernel
theorem dX10_feed_1 : decode cX10_feed 1 = .ok (.iconst 0, 1) := by decide +kernel
theorem dX10_feed_2 : decode cX10_feed 2 = .ok (.putfield 95, 3) := by decide +kernel
theorem dX10_feed_5 : decode cX10_feed 5 = .ok (.aload_n 0, 1) := by decide +kernel
theorem dX10_feed_6 : decode cX10_feed 6 = .ok (.getfield 365, 3) := by decide +kernel
theorem dX10_feed_9 : decode cX10_feed 9 = .ok (.bipush 20, 2) := by decide +kernel
theorem dX10_feed_11 : decode cX10_feed 11 = .ok (.iadd, 1) := by decide +kernel
theorem dX10_feed_12 : decode cX10_feed 12 = .ok (.sipush 800, 3) := by decide +kernel
theorem dX10_feed_15 : decode cX10_feed 15 = .ok (.if_icmp .le 5, 3) := by decide +kernel
theorem dX10_feed_18 : decode cX10_feed 18 = .ok (.iconst (-1), 1) := by decide +kernel
theorem dX10_feed_19 : decode cX10_feed 19 = .ok (.ireturn, 1) := by decide +kernel
theorem dX10_feed_20 : decode cX10_feed 20 = .ok (.iconst 0, 1) := by decide +kernel
theorem dX10_feed_21 : decode cX10_feed 21 = .ok (.istore 6, 2) := by decide +kernel
theorem dX10_feed_23 : decode cX10_feed 23 = .ok (.iload 6, 2) := by decide +kernel
theorem dX10_feed_25 : decode cX10_feed 25 = .ok (.bipush 20, 2) := by decide +kernel
theorem dX10_feed_27 : decode cX10_feed 27 = .ok (.if_icmp .ge 93, 3) := by decide +kernel
theorem dX10_feed_30 : decode cX10_feed 30 = .ok (.iload 6, 2) := by decide +kernel
theorem dX10_feed_32 : decode cX10_feed 32 = .ok (.iconst 4, 1) := by decide +kernel
theorem dX10_feed_33 : decode cX10_feed 33 = .ok (.if_icmp .ge 7, 3) := by decide +kernel
theorem dX10_feed_36 : decode cX10_feed 36 = .ok (.iload_n 1, 1) := by decide +kernel
theorem dX10_feed_37 : decode cX10_feed 37 = .ok (.goto 39, 3) := by decide +kernel
theorem dX10_feed_40 : decode cX10_feed 40 = .ok (.iload 6, 2) := by decide +kernel
theorem dX10_feed_42 : decode cX10_feed 42 = .ok (.bipush 8, 2) := by decide +kernel
theorem dX10_feed_44 : decode cX10_feed 44 = .ok (.if_icmp .ge 7, 3) := by decide +kernel
theorem dX10_feed_47 : decode cX10_feed 47 = .ok (.iload_n 2, 1) := by decide +kernel
theorem dX10_feed_48 : decode cX10_feed 48 = .ok (.goto 28, 3) := by decide +kernel
theorem dX10_feed_51 : decode cX10_feed 51 = .ok (.iload 6, 2) := by decide +kernel
theorem dX10_feed_53 : decode cX10_feed 53 = .ok (.bipush 12, 2) := by decide +kernel
theorem dX10_feed_55 : decode cX10_feed 55 = .ok (.if_icmp .ge 7, 3) := by decide +kernel
theorem dX10_feed_58 : decode cX10_feed 58 = .ok (.iload_n 3, 1) := by decide +kernel
theorem dX10_feed_59 : decode cX10_feed 59 = .ok (.goto 17, 3) := by decide +kernel
theorem dX10_feed_62 : decode cX10_feed 62 = .ok (.iload 6, 2) := by decide +kernel
theorem dX10_feed_64 : decode cX10_feed 64 = .ok (.bipush 16, 2) := by decide +kernel
theorem dX10_feed_66 : decode cX10_feed 66 = .ok (.if_icmp .ge 8, 3) := by decide +kernel
theorem dX10_feed_69 : decode cX10_feed 69 = .ok (.iload 4, 2) := by decide +kernel
theorem dX10_feed_71 : decode cX10_feed 71 = .ok (.goto 5, 3) := by decide +kernel
theorem dX10_feed_74 : decode cX10_feed 74 = .ok (.iload 5, 2) := by decide +kernel
theorem dX10_feed_76 : decode cX10_feed 76 = .ok (.istore 7, 2) := by decide +kernel
theorem dX10_feed_78 : decode cX10_feed 78 = .ok (.aload_n 0, 1) := by decide +kernel
theorem dX10_feed_79 : decode cX10_feed 79 = .ok (.getfield 63, 3) := by decide +kernel
theorem dX10_feed_82 : decode cX10_feed 82 = .ok (.aload_n 0, 1) := by decide +kernel
theorem dX10_feed_83 : decode cX10_feed 83 = .ok (.getfield 365, 3) := by decide +kernel
theorem dX10_feed_86 : decode cX10_feed 86 = .ok (.iload 7, 2) := by decide +kernel
theorem dX10_feed_88 : decode cX10_feed 88 = .ok (.bipush 24, 2) := by decide +kernel
theorem dX10_feed_90 : decode cX10_feed 90 = .ok (.bipush 8, 2) := by decide +kernel
theorem dX10_feed_92 : decode cX10_feed 92 = .ok (.iload 6, 2) := by decide +kernel
theorem dX10_feed_94 : decode cX10_feed 94 = .ok (.iconst 4, 1) := by decide +kernel
theorem dX10_feed_95 : decode cX10_feed 95 = .ok (.irem, 1) := by decide +kernel
theorem dX10_feed_96 : decode cX10_feed 96 = .ok (.imul, 1) := by decide +kernel
theorem dX10_feed_97 : decode cX10_feed 97 = .ok (.isub, 1) := by decide +kernel
theorem dX10_feed_98 : decode cX10_feed 98 = .ok (.ishr, 1) := by decide +kernel
theorem dX10_feed_99 : decode cX10_feed 99 = .ok (.sipush 255, 3) := by decide +kernel
theorem dX10_feed_102 : decode cX10_feed 102 = .ok (.iand, 1) := by decide +kernel
theorem dX10_feed_103 : decode cX10_feed 103 = .ok (.iastore, 1) := by decide +kernel
theorem dX10_feed_104 : decode cX10_feed 104 = .ok (.aload_n 0, 1) := by decide +kernel
theorem dX10_feed_105 : decode cX10_feed 105 = .ok (.dup, 1) := by decide +kernel
theorem dX10_feed_106 : decode cX10_feed 106 = .ok (.getfield 365, 3) := by decide +kernel
theorem dX10_feed_109 : decode cX10_feed 109 = .ok (.iconst 1, 1) := by decide +kernel
theorem dX10_feed_110 : decode cX10_feed 110 = .ok (.iadd, 1) := by decide +kernel
theorem dX10_feed_111 : decode cX10_feed 111 = .ok (.putfield 365, 3) := by decide +kernel
theorem dX10_feed_114 : decode cX10_feed 114 = .ok (.iinc 6 1, 3) := by decide +kernel
theorem dX10_feed_117 : decode cX10_feed 117 = .ok (.goto (-94), 3) := by decide +kernel
theorem dX10_feed_120 : decode cX10_feed 120 = .ok (.aload_n 0, 1) := by decide +kernel
theorem dX10_feed_121 : decode cX10_feed 121 = .ok (.getfield 365, 3) := by decide +kernel
theorem dX10_feed_124 : decode cX10_feed 124 = .ok (.ireturn, 1) := by decide +kernel
theorem dX10_errorPosition_0 : decode cX10_errorPosition 0 = .ok (.aload_n 0, 1) := by decide +kernel
theorem dX10_errorPosition_1 : decode cX10_errorPosition 1 = .ok (.iconst 0, 1) := by decide +kernel
theorem dX10_errorPosition_2 : decode cX10_errorPosition 2 = .ok (.putfield 95, 3) := by decide +kernel
theorem dX10_errorPosition_5 : decode cX10_errorPosition 5 = .ok (.aload_n 0, 1) := by decide +kernel
theorem dX10_errorPosition_6 : decode cX10_errorPosition 6 = .ok (.getfield 66, 3) := by decide +kernel
theorem dX10_errorPosition_9 : decode cX10_errorPosition 9 = .ok (.ireturn, 1) := by decide +kernel
theorem dX10_byteAt_0 : decode cX10_byteAt 0 = .ok (.iload_n 1, 1) := by decide +kernel
theorem dX10_byteAt_1 : decode cX10_byteAt 1 = .ok (.aload_n 0, 1) := by decide +kernel
theorem dX10_byteAt_2 : decode cX10_byteAt 2 = .ok (.getfield 368, 3) := by decide +kernel
theorem dX10_byteAt_5 : decode cX10_byteAt 5 = .ok (.if_icmp .ge 12, 3) := by decide +kernel
theorem dX10_byteAt_8 : decode cX10_byteAt 8 = .ok (.aload_n 0, 1) := by decide +kernel
theorem dX10_byteAt_9 : decode cX10_byteAt 9 = .ok (.getfield 63, 3) := by decide +kernel
theorem dX10_byteAt_12 : decode cX10_byteAt 12 = .ok (.iload_n 1, 1) := by decide +kernel
theorem dX10_byteAt_13 : decode cX10_byteAt 13 = .ok (.iaload, 1) := by decide +kernel
theorem dX10_byteAt_14 : decode cX10_byteAt 14 = .ok (.goto 4, 3) := by decide +kernel
theorem dX10_byteAt_17 : decode cX10_byteAt 17 = .ok (.iconst (-1), 1) := by decide +kernel
theorem dX10_byteAt_18 : decode cX10_byteAt 18 = .ok (.ireturn, 1) := by decide +kernel
theorem dX10_isLetter_0 : decode cX10_isLetter 0 = .ok (.aload_n 0, 1) := by decide +kernel
theorem dX10_isLetter_1 : decode cX10_isLetter 1 = .ok (.iload_n 1, 1) := by decide +kernel
theorem dX10_isLetter_2 : decode cX10_isLetter 2 = .ok (.invokevirtual 371, 3) := by decide +kernel
theorem dX10_isLetter_5 : decode cX10_isLetter 5 = .ok (.bipush 97, 2) := by decide +kernel
theorem dX10_isLetter_7 : decode cX10_isLetter 7 = .ok (.if_icmp .lt 17, 3) := by decide +kernel
theorem dX10_isLetter_10 : decode cX10_isLetter 10 = .ok (.aload_n 0, 1) := by decide +kernel
theorem dX10_isLetter_11 : decode cX10_isLetter 11 = .ok (.iload_n 1, 1) := by decide +kernel
theorem dX10_isLetter_12 : decode cX10_isLetter 12 = .ok (.invokevirtual 371, 3) := by decide +kernel
theorem dX10_isLetter_15 : decode cX10_isLetter 15 = .ok (.bipush 122, 2) := by decide +kernel
theorem dX10_isLetter_17 : decode cX10_isLetter 17 = .ok (.if_icmp .gt 7, 3) := by decide +kernel
theorem dX10_isLetter_20 : decode cX10_isLetter 20 = .ok (.iconst 1, 1) := by decide +kernel
theorem dX10_isLetter_21 : decode cX10_isLetter 21 = .ok (.goto 4, 3) := by decide +kernel
theorem dX10_isLetter_24 : decode cX10_isLetter 24 = .ok (.iconst 0, 1) := by decide +kernel
theorem dX10_isLetter_25 : decode cX10_isLetter 25 = .ok (.ireturn, 1) := by decide +kernel
theorem dX10_isDigit_0 : decode cX10_isDigit 0 = .ok (.aload_n 0, 1) := by decide +kernel
theorem dX10_isDigit_1 : decode cX10_isDigit 1 = .ok (.iload_n 1, 1) := by decide +kernel
theorem dX10_isDigit_2 : decode cX10_isDigit 2 = .ok (.invokevirtual 371, 3) := by decide +kernel
theorem dX10_isDigit_5 : decode cX10_isDigit 5 = .ok (.bipush 48, 2) := by decide +kernel
theorem dX10_isDigit_7 : decode cX10_isDigit 7 = .ok (.if_icmp .lt 17, 3) := by decide +kernel
theorem dX10_isDigit_10 : decode cX10_isDigit 10 = .ok (.aload_n 0, 1) := by decide +kernel
theorem dX10_isDigit_11 : decode cX10_isDigit 11 = .ok (.iload_n 1, 1) := by decide +kernel
theorem dX10_isDigit_12 : decode cX10_isDigit 12 = .ok (.invokevirtual 371, 3) := by decide +kernel
theorem dX10_isDigit_15 : decode cX10_isDigit 15 = .ok (.bipush 57, 2) := by decide +kernel
theorem dX10_isDigit_17 : decode cX10_isDigit 17 = .ok (.if_icmp .gt 7, 3) := by decide +kernel
theorem dX10_isDigit_20 : decode cX10_isDigit 20 = .ok (.iconst 1, 1) := by decide +kernel
theorem dX10_isDigit_21 : decode cX10_isDigit 21 = .ok (.goto 4, 3) := by decide +kernel
theorem dX10_isDigit_24 : decode cX10_isDigit 24 = .ok (.iconst 0, 1) := by decide +kernel
theorem dX10_isDigit_25 : decode cX10_isDigit 25 = .ok (.ireturn, 1) := by decide +kernel
theorem dX10_scan_0 : decode cX10_scan 0 = .ok (.aload_n 0, 1) := by decide +kernel
theorem dX10_scan_1 : decode cX10_scan 1 = .ok (.aload_n 0, 1) := by decide +kernel
theorem dX10_scan_2 : decode cX10_scan 2 = .ok (.getfield 374, 3) := by decide +kernel
theorem dX10_scan_5 : decode cX10_scan 5 = .ok (.invokevirtual 371, 3) := by decide +kernel
theorem dX10_scan_8 : decode cX10_scan 8 = .ok (.bipush 32, 2) := by decide +kernel
theorem dX10_scan_10 : decode cX10_scan 10 = .ok (.if_icmp .eq 16, 3) := by decide +kernel
theorem dX10_scan_13 : decode cX10_scan 13 = .ok (.aload_n 0, 1) := by decide +kernel
theorem dX10_scan_14 : decode cX10_scan 14 = .ok (.aload_n 0, 1) := by decide +kernel
theorem dX10_scan_15 : decode cX10_scan 15 = .ok (.getfield 374, 3) := by decide +kernel
theorem dX10_scan_18 : decode cX10_scan 18 = .ok (.invokevirtual 371, 3) := by decide +kernel
theorem dX10_scan_21 : decode cX10_scan 21 = .ok (.bipush 10, 2) := by decide +kernel
theorem dX10_scan_23 : decode cX10_scan 23 = .ok (.if_icmp .ne 16, 3) := by decide +kernel
theorem dX10_scan_26 : decode cX10_scan 26 = .ok (.aload_n 0, 1) := by decide +kernel
theorem dX10_scan_27 : decode cX10_scan 27 = .ok (.dup, 1) := by decide +kernel
theorem dX10_scan_28 : decode cX10_scan 28 = .ok (.getfield 374, 3) := by decide +kernel
theorem dX10_scan_31 : decode cX10_scan 31 = .ok (.iconst 1, 1) := by decide +kernel
theorem dX10_scan_32 : decode cX10_scan 32 = .ok (.iadd, 1) := by decide +kernel
theorem dX10_scan_33 : decode cX10_scan 33 = .ok (.putfield 374, 3) := by decide +kernel
theorem dX10_scan_36 : decode cX10_scan 36 = .ok (.goto (-36), 3) := by decide +kernel
theorem dX10_scan_39 : decode cX10_scan 39 = .ok (.aload_n 0, 1) := by decide +kernel
theorem dX10_scan_40 : decode cX10_scan 40 = .ok (.aload_n 0, 1) := by decide +kernel
theorem dX10_scan_41 : decode cX10_scan 41 = .ok (.getfield 374, 3) := by decide +kernel
theorem dX10_scan_44 : decode cX10_scan 44 = .ok (.putfield 377, 3) := by decide +kernel
theorem dX10_scan_47 : decode cX10_scan 47 = .ok (.aload_n 0, 1) := by decide +kernel
theorem dX10_scan_48 : decode cX10_scan 48 = .ok (.getfield 374, 3) := by decide +kernel
theorem dX10_scan_51 : decode cX10_scan 51 = .ok (.aload_n 0, 1) := by decide +kernel
theorem dX10_scan_52 : decode cX10_scan 52 = .ok (.getfield 368, 3) := by decide +kernel
theorem dX10_scan_55 : decode cX10_scan 55 = .ok (.if_icmp .lt 11, 3) := by decide +kernel
theorem dX10_scan_58 : decode cX10_scan 58 = .ok (.aload_n 0, 1) := by decide +kernel
theorem dX10_scan_59 : decode cX10_scan 59 = .ok (.iconst 0, 1) := by decide +kernel
theorem dX10_scan_60 : decode cX10_scan 60 = .ok (.putfield 380, 3) := by decide +kernel
theorem dX10_scan_63 : decode cX10_scan 63 = .ok (.goto 104, 3) := by decide +kernel
theorem dX10_scan_66 : decode cX10_scan 66 = .ok (.aload_n 0, 1) := by decide +kernel
theorem dX10_scan_67 : decode cX10_scan 67 = .ok (.aload_n 0, 1) := by decide +kernel
theorem dX10_scan_68 : decode cX10_scan 68 = .ok (.getfield 374, 3) := by decide +kernel
theorem dX10_scan_71 : decode cX10_scan 71 = .ok (.invokevirtual 383, 3) := by decide +kernel
theorem dX10_scan_74 : decode cX10_scan 74 = .ok (.ifCond .eq 35, 3) := by decide +kernel
theorem dX10_scan_77 : decode cX10_scan 77 = .ok (.aload_n 0, 1) := by decide +kernel
theorem dX10_scan_78 : decode cX10_scan 78 = .ok (.aload_n 0, 1) := by decide +kernel
theorem dX10_scan_79 : decode cX10_scan 79 = .ok (.getfield 374, 3) := by decide +kernel
theorem dX10_scan_82 : decode cX10_scan 82 = .ok (.invokevirtual 383, 3) := by decide +kernel
theorem dX10_scan_85 : decode cX10_scan 85 = .ok (.ifCond .eq 16, 3) := by decide +kernel
theorem dX10_scan_88 : decode cX10_scan 88 = .ok (.aload_n 0, 1) := by decide +kernel
theorem dX10_scan_89 : decode cX10_scan 89 = .ok (.dup, 1) := by decide +kernel
theorem dX10_scan_90 : decode cX10_scan 90 = .ok (.getfield 374, 3) := by decide +kernel
theorem dX10_scan_93 : decode cX10_scan 93 = .ok (.iconst 1, 1) := by decide +kernel
theorem dX10_scan_94 : decode cX10_scan 94 = .ok (.iadd, 1) := by decide +kernel
theorem dX10_scan_95 : decode cX10_scan 95 = .ok (.putfield 374, 3) := by decide +kernel
theorem dX10_scan_98 : decode cX10_scan 98 = .ok (.goto (-21), 3) := by decide +kernel
theorem dX10_scan_101 : decode cX10_scan 101 = .ok (.aload_n 0, 1) := by decide +kernel
theorem dX10_scan_102 : decode cX10_scan 102 = .ok (.iconst 1, 1) := by decide +kernel
theorem dX10_scan_103 : decode cX10_scan 103 = .ok (.putfield 380, 3) := by decide +kernel
theorem dX10_scan_106 : decode cX10_scan 106 = .ok (.goto 61, 3) := by decide +kernel
theorem dX10_scan_109 : decode cX10_scan 109 = .ok (.aload_n 0, 1) := by decide +kernel
theorem dX10_scan_110 : decode cX10_scan 110 = .ok (.aload_n 0, 1) := by decide +kernel
theorem dX10_scan_111 : decode cX10_scan 111 = .ok (.getfield 374, 3) := by decide +kernel
theorem dX10_scan_114 : decode cX10_scan 114 = .ok (.invokevirtual 386, 3) := by decide +kernel
theorem dX10_scan_117 : decode cX10_scan 117 = .ok (.ifCond .eq 35, 3) := by decide +kernel
theorem dX10_scan_120 : decode cX10_scan 120 = .ok (.aload_n 0, 1) := by decide +kernel
theorem dX10_scan_121 : decode cX10_scan 121 = .ok (.aload_n 0, 1) := by decide +kernel
theorem dX10_scan_122 : decode cX10_scan 122 = .ok (.getfield 374, 3) := by decide +kernel
theorem dX10_scan_125 : decode cX10_scan 125 = .ok (.invokevirtual 386, 3) := by decide +kernel
theorem dX10_scan_128 : decode cX10_scan 128 = .ok (.ifCond .eq 16, 3) := by decide +kernel
theorem dX10_scan_131 : decode cX10_scan 131 = .ok (.aload_n 0, 1) := by decide +kernel
theorem dX10_scan_132 : decode cX10_scan 132 = .ok (.dup, 1) := by decide +kernel
theorem dX10_scan_133 : decode cX10_scan 133 = .ok (.getfield 374, 3) := by decide +kernel
theorem dX10_scan_136 : decode cX10_scan 136 = .ok (.iconst 1, 1) := by decide +kernel
theorem dX10_scan_137 : decode cX10_scan 137 = .ok (.iadd, 1) := by decide +kernel
theorem dX10_scan_138 : decode cX10_scan 138 = .ok (.putfield 374, 3) := by decide +kernel
theorem dX10_scan_141 : decode cX10_scan 141 = .ok (.goto (-21), 3) := by decide +kernel
theorem dX10_scan_144 : decode cX10_scan 144 = .ok (.aload_n 0, 1) := by decide +kernel
theorem dX10_scan_145 : decode cX10_scan 145 = .ok (.iconst 2, 1) := by decide +kernel
theorem dX10_scan_146 : decode cX10_scan 146 = .ok (.putfield 380, 3) := by decide +kernel
theorem dX10_scan_149 : decode cX10_scan 149 = .ok (.goto 18, 3) := by decide +kernel
theorem dX10_scan_152 : decode cX10_scan 152 = .ok (.aload_n 0, 1) := by decide +kernel
theorem dX10_scan_153 : decode cX10_scan 153 = .ok (.dup, 1) := by decide +kernel
theorem dX10_scan_154 : decode cX10_scan 154 = .ok (.getfield 374, 3) := by decide +kernel
theorem dX10_scan_157 : decode cX10_scan 157 = .ok (.iconst 1, 1) := by decide +kernel
theorem dX10_scan_158 : decode cX10_scan 158 = .ok (.iadd, 1) := by decide +kernel
theorem dX10_scan_159 : decode cX10_scan 159 = .ok (.putfield 374, 3) := by decide +kernel
theorem dX10_scan_162 : decode cX10_scan 162 = .ok (.aload_n 0, 1) := by decide +kernel
theorem dX10_scan_163 : decode cX10_scan 163 = .ok (.iconst 3, 1) := by decide +kernel
theorem dX10_scan_164 : decode cX10_scan 164 = .ok (.putfield 380, 3) := by decide +kernel
theorem dX10_scan_167 : decode cX10_scan 167 = .ok (.return_, 1) := by decide +kernel
theorem dX10_startText_0 : decode cX10_startText 0 = .ok (.aload_n 0, 1) := by decide +kernel
theorem dX10_startText_1 : decode cX10_startText 1 = .ok (.iload_n 1, 1) := by decide +kernel
theorem dX10_startText_2 : decode cX10_startText 2 = .ok (.putfield 368, 3) := by decide +kernel
theorem dX10_startText_5 : decode cX10_startText 5 = .ok (.aload_n 0, 1) := by decide +kernel
theorem dX10_startText_6 : decode cX10_startText 6 = .ok (.iconst 0, 1) := by decide +kernel
theorem dX10_startText_7 : decode cX10_startText 7 = .ok (.putfield 374, 3) := by decide +kernel
theorem dX10_startText_10 : decode cX10_startText 10 = .ok (.aload_n 0, 1) := by decide +kernel
theorem dX10_startText_11 : decode cX10_startText 11 = .ok (.iconst 0, 1) := by decide +kernel
theorem dX10_startText_12 : decode cX10_startText 12 = .ok (.putfield 389, 3) := by decide +kernel
theorem dX10_startText_15 : decode cX10_startText 15 = .ok (.aload_n 0, 1) := by decide +kernel
theorem dX10_startText_16 : decode cX10_startText 16 = .ok (.iconst 0, 1) := by decide +kernel
theorem dX10_startText_17 : decode cX10_startText 17 = .ok (.putfield 392, 3) := by decide +kernel
theorem dX10_startText_20 : decode cX10_startText 20 = .ok (.aload_n 0, 1) := by decide +kernel
theorem dX10_startText_21 : decode cX10_startText 21 = .ok (.invokevirtual 395, 3) := by decide +kernel
theorem dX10_startText_24 : decode cX10_startText 24 = .ok (.return_, 1) := by decide +kernel
theorem dX10_finish_0 : decode cX10_finish 0 = .ok (.aload_n 0, 1) := by decide +kernel
theorem dX10_finish_1 : decode cX10_finish 1 = .ok (.iconst 0, 1) := by decide +kernel
theorem dX10_finish_2 : decode cX10_finish 2 = .ok (.putfield 365, 3) := by decide +kernel
theorem dX10_finish_5 : decode cX10_finish 5 = .ok (.aload_n 0, 1) := by decide +kernel
theorem dX10_finish_6 : decode cX10_finish 6 = .ok (.aload_n 0, 1) := by decide +kernel
theorem dX10_finish_7 : decode cX10_finish 7 = .ok (.getfield 389, 3) := by decide +kernel
theorem dX10_finish_10 : decode cX10_finish 10 = .ok (.ifCond .ne 7, 3) := by decide +kernel
theorem dX10_finish_13 : decode cX10_finish 13 = .ok (.iconst (-1), 1) := by decide +kernel
theorem dX10_finish_14 : decode cX10_finish 14 = .ok (.goto 7, 3) := by decide +kernel
theorem dX10_finish_17 : decode cX10_finish 17 = .ok (.aload_n 0, 1) := by decide +kernel
theorem dX10_finish_18 : decode cX10_finish 18 = .ok (.getfield 398, 3) := by decide +kernel
theorem dX10_finish_21 : decode cX10_finish 21 = .ok (.putfield 66, 3) := by decide +kernel
theorem dX10_finish_24 : decode cX10_finish 24 = .ok (.aload_n 0, 1) := by decide +kernel
theorem dX10_finish_25 : decode cX10_finish 25 = .ok (.getfield 389, 3) := by decide +kernel
theorem dX10_finish_28 : decode cX10_finish 28 = .ok (.ireturn, 1) := by decide +kernel
theorem dX10_flaw_0 : decode cX10_flaw 0 = .ok (.aload_n 0, 1) := by decide +kernel
theorem dX10_flaw_1 : decode cX10_flaw 1 = .ok (.getfield 389, 3) := by decide +kernel
theorem dX10_flaw_4 : decode cX10_flaw 4 = .ok (.ifCond .ne 16, 3) := by decide +kernel
theorem dX10_flaw_7 : decode cX10_flaw 7 = .ok (.aload_n 0, 1) := by decide +kernel
theorem dX10_flaw_8 : decode cX10_flaw 8 = .ok (.iload_n 1, 1) := by decide +kernel
theorem dX10_flaw_9 : decode cX10_flaw 9 = .ok (.putfield 389, 3) := by decide +kernel
theorem dX10_flaw_12 : decode cX10_flaw 12 = .ok (.aload_n 0, 1) := by decide +kernel
theorem dX10_flaw_13 : decode cX10_flaw 13 = .ok (.aload_n 0, 1) := by decide +kernel
theorem dX10_flaw_14 : decode cX10_flaw 14 = .ok (.getfield 377, 3) := by decide +kernel
theorem dX10_flaw_17 : decode cX10_flaw 17 = .ok (.putfield 398, 3) := by decide +kernel
theorem dX10_flaw_20 : decode cX10_flaw 20 = .ok (.return_, 1) := by decide +kernel
theorem dX10_check_0 : decode cX10_check 0 = .ok (.iload_n 1, 1) := by decide +kernel
theorem dX10_check_1 : decode cX10_check 1 = .ok (.ifCond .ne 8, 3) := by decide +kernel
theorem dX10_check_4 : decode cX10_check 4 = .ok (.aload_n 0, 1) := by decide +kernel
theorem dX10_check_5 : decode cX10_check 5 = .ok (.iload_n 2, 1) := by decide +kernel
theorem dX10_check_6 : decode cX10_check 6 = .ok (.invokevirtual 401, 3) := by decide +kernel
theorem dX10_check_9 : decode cX10_check 9 = .ok (.return_, 1) := by decide +kernel
theorem dX10_advance_0 : decode cX10_advance 0 = .ok (.aload_n 0, 1) := by decide +kernel
theorem dX10_advance_1 : decode cX10_advance 1 = .ok (.getfield 389, 3) := by decide +kernel
theorem dX10_advance_4 : decode cX10_advance 4 = .ok (.ifCond .ne 7, 3) := by decide +kernel
theorem dX10_advance_7 : decode cX10_advance 7 = .ok (.aload_n 0, 1) := by decide +kernel
theorem dX10_advance_8 : decode cX10_advance 8 = .ok (.invokevirtual 395, 3) := by decide +kernel
theorem dX10_advance_11 : decode cX10_advance 11 = .ok (.return_, 1) := by decide +kernel
theorem dX10_isSymbol_0 : decode cX10_isSymbol 0 = .ok (.aload_n 0, 1) := by decide +kernel
theorem dX10_isSymbol_1 : decode cX10_isSymbol 1 = .ok (.getfield 389, 3) := by decide +kernel
theorem dX10_isSymbol_4 : decode cX10_isSymbol 4 = .ok (.ifCond .ne 28, 3) := by decide +kernel
theorem dX10_isSymbol_7 : decode cX10_isSymbol 7 = .ok (.aload_n 0, 1) := by decide +kernel
theorem dX10_isSymbol_8 : decode cX10_isSymbol 8 = .ok (.getfield 380, 3) := by decide +kernel
theorem dX10_isSymbol_11 : decode cX10_isSymbol 11 = .ok (.iconst 3, 1) := by decide +kernel
theorem dX10_isSymbol_12 : decode cX10_isSymbol 12 = .ok (.if_icmp .ne 20, 3) := by decide +kernel
theorem dX10_isSymbol_15 : decode cX10_isSymbol 15 = .ok (.aload_n 0, 1) := by decide +kernel
theorem dX10_isSymbol_16 : decode cX10_isSymbol 16 = .ok (.getfield 63, 3) := by decide +kernel
theorem dX10_isSymbol_19 : decode cX10_isSymbol 19 = .ok (.aload_n 0, 1) := by decide +kernel
theorem dX10_isSymbol_20 : decode cX10_isSymbol 20 = .ok (.getfield 377, 3) := by decide +kernel
theorem dX10_isSymbol_23 : decode cX10_isSymbol 23 = .ok (.iaload, 1) := by decide +kernel
theorem dX10_isSymbol_24 : decode cX10_isSymbol 24 = .ok (.iload_n 1, 1) := by decide +kernel
theorem dX10_isSymbol_25 : decode cX10_isSymbol 25 = .ok (.if_icmp .ne 7, 3) := by decide +kernel
theorem dX10_isSymbol_28 : decode cX10_isSymbol 28 = .ok (.iconst 1, 1) := by decide +kernel
theorem dX10_isSymbol_29 : decode cX10_isSymbol 29 = .ok (.goto 4, 3) := by decide +kernel
theorem dX10_isSymbol_32 : decode cX10_isSymbol 32 = .ok (.iconst 0, 1) := by decide +kernel
theorem dX10_isSymbol_33 : decode cX10_isSymbol 33 = .ok (.ireturn, 1) := by decide +kernel
theorem dX10_isWord_0 : decode cX10_isWord 0 = .ok (.aload_n 0, 1) := by decide +kernel
theorem dX10_isWord_1 : decode cX10_isWord 1 = .ok (.getfield 389, 3) := by decide +kernel
theorem dX10_isWord_4 : decode cX10_isWord 4 = .ok (.ifCond .ne 31, 3) := by decide +kernel
theorem dX10_isWord_7 : decode cX10_isWord 7 = .ok (.aload_n 0, 1) := by decide +kernel
theorem dX10_isWord_8 : decode cX10_isWord 8 = .ok (.getfield 380, 3) := by decide +kernel
theorem dX10_isWord_11 : decode cX10_isWord 11 = .ok (.iconst 1, 1) := by decide +kernel
theorem dX10_isWord_12 : decode cX10_isWord 12 = .ok (.if_icmp .ne 23, 3) := by decide +kernel
theorem dX10_isWord_15 : decode cX10_isWord 15 = .ok (.aload_n 1, 1) := by decide +kernel
theorem dX10_isWord_16 : decode cX10_isWord 16 = .ok (.invokevirtual 404, 3) := by decide +kernel
theorem dX10_isWord_19 : decode cX10_isWord 19 = .ok (.aload_n 0, 1) := by decide +kernel
theorem dX10_isWord_20 : decode cX10_isWord 20 = .ok (.getfield 374, 3) := by decide +kernel
theorem dX10_isWord_23 : decode cX10_isWord 23 = .ok (.aload_n 0, 1) := by decide +kernel
theorem dX10_isWord_24 : decode cX10_isWord 24 = .ok (.getfield 377, 3) := by decide +kernel
theorem dX10_isWord_27 : decode cX10_isWord 27 = .ok (.isub, 1) := by decide +kernel
theorem dX10_isWord_28 : decode cX10_isWord 28 = .ok (.if_icmp .ne 7, 3) := by decide +kernel
theorem dX10_isWord_31 : decode cX10_isWord 31 = .ok (.iconst 1, 1) := by decide +kernel
theorem dX10_isWord_32 : decode cX10_isWord 32 = .ok (.goto 4, 3) := by decide +kernel
theorem dX10_isWord_35 : decode cX10_isWord 35 = .ok (.iconst 0, 1) := by decide +kernel
theorem dX10_isWord_36 : decode cX10_isWord 36 = .ok (.istore_n 2, 1) := by decide +kernel
theorem dX10_isWord_37 : decode cX10_isWord 37 = .ok (.iconst 0, 1) := by decide +kernel
theorem dX10_isWord_38 : decode cX10_isWord 38 = .ok (.istore_n 3, 1) := by decide +kernel
theorem dX10_isWord_39 : decode cX10_isWord 39 = .ok (.iload_n 2, 1) := by decide +kernel
theorem dX10_isWord_40 : decode cX10_isWord 40 = .ok (.ifCond .eq 42, 3) := by decide +kernel
theorem dX10_isWord_43 : decode cX10_isWord 43 = .ok (.iload_n 3, 1) := by decide +kernel
theorem dX10_isWord_44 : decode cX10_isWord 44 = .ok (.aload_n 1, 1) := by decide +kernel
theorem dX10_isWord_45 : decode cX10_isWord 45 = .ok (.invokevirtual 404, 3) := by decide +kernel
theorem dX10_isWord_48 : decode cX10_isWord 48 = .ok (.if_icmp .ge 34, 3) := by decide +kernel
theorem dX10_isWord_51 : decode cX10_isWord 51 = .ok (.aload_n 1, 1) := by decide +kernel
theorem dX10_isWord_52 : decode cX10_isWord 52 = .ok (.iload_n 3, 1) := by decide +kernel
theorem dX10_isWord_53 : decode cX10_isWord 53 = .ok (.invokevirtual 407, 3) := by decide +kernel
theorem dX10_isWord_56 : decode cX10_isWord 56 = .ok (.aload_n 0, 1) := by decide +kernel
theorem dX10_isWord_57 : decode cX10_isWord 57 = .ok (.getfield 63, 3) := by decide +kernel
theorem dX10_isWord_60 : decode cX10_isWord 60 = .ok (.aload_n 0, 1) := by decide +kernel
theorem dX10_isWord_61 : decode cX10_isWord 61 = .ok (.getfield 377, 3) := by decide +kernel
theorem dX10_isWord_64 : decode cX10_isWord 64 = .ok (.iload_n 3, 1) := by decide +kernel
theorem dX10_isWord_65 : decode cX10_isWord 65 = .ok (.iadd, 1) := by decide +kernel
theorem dX10_isWord_66 : decode cX10_isWord 66 = .ok (.iaload, 1) := by decide +kernel
theorem dX10_isWord_67 : decode cX10_isWord 67 = .ok (.if_icmp .ne 7, 3) := by decide +kernel
theorem dX10_isWord_70 : decode cX10_isWord 70 = .ok (.iconst 1, 1) := by decide +kernel
theorem dX10_isWord_71 : decode cX10_isWord 71 = .ok (.goto 4, 3) := by decide +kernel
theorem dX10_isWord_74 : decode cX10_isWord 74 = .ok (.iconst 0, 1) := by decide +kernel
theorem dX10_isWord_75 : decode cX10_isWord 75 = .ok (.istore_n 2, 1) := by decide +kernel
theorem dX10_isWord_76 : decode cX10_isWord 76 = .ok (.iinc 3 1, 3) := by decide +kernel
theorem dX10_isWord_79 : decode cX10_isWord 79 = .ok (.goto (-40), 3) := by decide +kernel
theorem dX10_isWord_82 : decode cX10_isWord 82 = .ok (.iload_n 2, 1) := by decide +kernel
theorem dX10_isWord_83 : decode cX10_isWord 83 = .ok (.ireturn, 1) := by decide +kernel
theorem dX10_accept_0 : decode cX10_accept 0 = .ok (.aload_n 0, 1) := by decide +kernel
theorem dX10_accept_1 : decode cX10_accept 1 = .ok (.aload_n 1, 1) := by decide +kernel
theorem dX10_accept_2 : decode cX10_accept 2 = .ok (.invokevirtual 411, 3) := by decide +kernel
theorem dX10_accept_5 : decode cX10_accept 5 = .ok (.istore_n 2, 1) := by decide +kernel
theorem dX10_accept_6 : decode cX10_accept 6 = .ok (.iload_n 2, 1) := by decide +kernel
theorem dX10_accept_7 : decode cX10_accept 7 = .ok (.ifCond .eq 7, 3) := by decide +kernel
theorem dX10_accept_10 : decode cX10_accept 10 = .ok (.aload_n 0, 1) := by decide +kernel
theorem dX10_accept_11 : decode cX10_accept 11 = .ok (.invokevirtual 395, 3) := by decide +kernel
theorem dX10_accept_14 : decode cX10_accept 14 = .ok (.iload_n 2, 1) := by decide +kernel
theorem dX10_accept_15 : decode cX10_accept 15 = .ok (.ireturn, 1) := by decide +kernel
theorem dX10_expect_0 : decode cX10_expect 0 = .ok (.aload_n 0, 1) := by decide +kernel
theorem dX10_expect_1 : decode cX10_expect 1 = .ok (.aload_n 0, 1) := by decide +kernel
theorem dX10_expect_2 : decode cX10_expect 2 = .ok (.iload_n 1, 1) := by decide +kernel
theorem dX10_expect_3 : decode cX10_expect 3 = .ok (.invokevirtual 422, 3) := by decide +kernel
theorem dX10_expect_6 : decode cX10_expect 6 = .ok (.iconst 1, 1) := by decide +kernel
theorem dX10_expect_7 : decode cX10_expect 7 = .ok (.invokevirtual 415, 3) := by decide +kernel
theorem dX10_expect_10 : decode cX10_expect 10 = .ok (.aload_n 0, 1) := by decide +kernel
theorem dX10_expect_11 : decode cX10_expect 11 = .ok (.invokevirtual 419, 3) := by decide +kernel
theorem dX10_expect_14 : decode cX10_expect 14 = .ok (.return_, 1) := by decide +kernel
theorem dX10_value_0 : decode cX10_value 0 = .ok (.iconst 0, 1) := by decide +kernel
theorem dX10_value_1 : decode cX10_value 1 = .ok (.istore_n 1, 1) := by decide +kernel
theorem dX10_value_2 : decode cX10_value 2 = .ok (.aload_n 0, 1) := by decide +kernel
theorem dX10_value_3 : decode cX10_value 3 = .ok (.getfield 377, 3) := by decide +kernel
theorem dX10_value_6 : decode cX10_value 6 = .ok (.istore_n 2, 1) := by decide +kernel
theorem dX10_value_7 : decode cX10_value 7 = .ok (.iload_n 2, 1) := by decide +kernel
theorem dX10_value_8 : decode cX10_value 8 = .ok (.aload_n 0, 1) := by decide +kernel
theorem dX10_value_9 : decode cX10_value 9 = .ok (.getfield 374, 3) := by decide +kernel
theorem dX10_value_12 : decode cX10_value 12 = .ok (.if_icmp .ge 43, 3) := by decide +kernel
theorem dX10_value_15 : decode cX10_value 15 = .ok (.aload_n 0, 1) := by decide +kernel
theorem dX10_value_16 : decode cX10_value 16 = .ok (.getfield 380, 3) := by decide +kernel
theorem dX10_value_19 : decode cX10_value 19 = .ok (.iconst 2, 1) := by decide +kernel
theorem dX10_value_20 : decode cX10_value 20 = .ok (.if_icmp .ne 35, 3) := by decide +kernel
theorem dX10_value_23 : decode cX10_value 23 = .ok (.ldc2_w 425, 3) := by decide +kernel
theorem dX10_value_26 : decode cX10_value 26 = .ok (.ldc2_w 307, 3) := by decide +kernel
theorem dX10_value_29 : decode cX10_value 29 = .ok (.iload_n 1, 1) := by decide +kernel
theorem dX10_value_30 : decode cX10_value 30 = .ok (.i2l, 1) := by decide +kernel
theorem dX10_value_31 : decode cX10_value 31 = .ok (.lmul, 1) := by decide +kernel
theorem dX10_value_32 : decode cX10_value 32 = .ok (.aload_n 0, 1) := by decide +kernel
theorem dX10_value_33 : decode cX10_value 33 = .ok (.getfield 63, 3) := by decide +kernel
theorem dX10_value_36 : decode cX10_value 36 = .ok (.iload_n 2, 1) := by decide +kernel
theorem dX10_value_37 : decode cX10_value 37 = .ok (.iaload, 1) := by decide +kernel
theorem dX10_value_38 : decode cX10_value 38 = .ok (.i2l, 1) := by decide +kernel
theorem dX10_value_39 : decode cX10_value 39 = .ok (.ladd, 1) := by decide +kernel
theorem dX10_value_40 : decode cX10_value 40 = .ok (.ldc2_w 427, 3) := by decide +kernel
theorem dX10_value_43 : decode cX10_value 43 = .ok (.lsub, 1) := by decide +kernel
theorem dX10_value_44 : decode cX10_value 44 = .ok (.invokestatic 314, 3) := by decide +kernel
theorem dX10_value_47 : decode cX10_value 47 = .ok (.l2i, 1) := by decide +kernel
theorem dX10_value_48 : decode cX10_value 48 = .ok (.istore_n 1, 1) := by decide +kernel
theorem dX10_value_49 : decode cX10_value 49 = .ok (.iinc 2 1, 3) := by decide +kernel
theorem dX10_value_52 : decode cX10_value 52 = .ok (.goto (-45), 3) := by decide +kernel
theorem dX10_value_55 : decode cX10_value 55 = .ok (.iload_n 1, 1) := by decide +kernel
theorem dX10_value_56 : decode cX10_value 56 = .ok (.ireturn, 1) := by decide +kernel
theorem dX10_readNumber_0 : decode cX10_readNumber 0 = .ok (.aload_n 0, 1) := by decide +kernel
theorem dX10_readNumber_1 : decode cX10_readNumber 1 = .ok (.aload_n 0, 1) := by decide +kernel
theorem dX10_readNumber_2 : decode cX10_readNumber 2 = .ok (.getfield 389, 3) := by decide +kernel
theorem dX10_readNumber_5 : decode cX10_readNumber 5 = .ok (.ifCond .ne 11, 3) := by decide +kernel
theorem dX10_readNumber_8 : decode cX10_readNumber 8 = .ok (.aload_n 0, 1) := by decide +kernel
theorem dX10_readNumber_9 : decode cX10_readNumber 9 = .ok (.getfield 380, 3) := by decide +kernel
theorem dX10_readNumber_12 : decode cX10_readNumber 12 = .ok (.iconst 2, 1) := by decide +kernel
theorem dX10_readNumber_13 : decode cX10_readNumber 13 = .ok (.if_icmp .ne 7, 3) := by decide +kernel
theorem dX10_readNumber_16 : decode cX10_readNumber 16 = .ok (.iconst 1, 1) := by decide +kernel
theorem dX10_readNumber_17 : decode cX10_readNumber 17 = .ok (.goto 4, 3) := by decide +kernel
theorem dX10_readNumber_20 : decode cX10_readNumber 20 = .ok (.iconst 0, 1) := by decide +kernel
theorem dX10_readNumber_21 : decode cX10_readNumber 21 = .ok (.iconst 1, 1) := by decide +kernel
theorem dX10_readNumber_22 : decode cX10_readNumber 22 = .ok (.invokevirtual 415, 3) := by decide +kernel
theorem dX10_readNumber_25 : decode cX10_readNumber 25 = .ok (.aload_n 0, 1) := by decide +kernel
theorem dX10_readNumber_26 : decode cX10_readNumber 26 = .ok (.invokevirtual 429, 3) := by decide +kernel
theorem dX10_readNumber_29 : decode cX10_readNumber 29 = .ok (.istore_n 3, 1) := by decide +kernel
theorem dX10_readNumber_30 : decode cX10_readNumber 30 = .ok (.aload_n 0, 1) := by decide +kernel
theorem dX10_readNumber_31 : decode cX10_readNumber 31 = .ok (.aload_n 0, 1) := by decide +kernel
theorem dX10_readNumber_32 : decode cX10_readNumber 32 = .ok (.getfield 389, 3) := by decide +kernel
theorem dX10_readNumber_35 : decode cX10_readNumber 35 = .ok (.ifCond .ne 15, 3) := by decide +kernel
theorem dX10_readNumber_38 : decode cX10_readNumber 38 = .ok (.iload_n 3, 1) := by decide +kernel
theorem dX10_readNumber_39 : decode cX10_readNumber 39 = .ok (.i2l, 1) := by decide +kernel
theorem dX10_readNumber_40 : decode cX10_readNumber 40 = .ok (.iload_n 1, 1) := by decide +kernel
theorem dX10_readNumber_41 : decode cX10_readNumber 41 = .ok (.i2l, 1) := by decide +kernel
theorem dX10_readNumber_42 : decode cX10_readNumber 42 = .ok (.iload_n 2, 1) := by decide +kernel
theorem dX10_readNumber_43 : decode cX10_readNumber 43 = .ok (.i2l, 1) := by decide +kernel
theorem dX10_readNumber_44 : decode cX10_readNumber 44 = .ok (.invokestatic 106, 3) := by decide +kernel
theorem dX10_readNumber_47 : decode cX10_readNumber 47 = .ok (.ifCond .eq 7, 3) := by decide +kernel
theorem dX10_readNumber_50 : decode cX10_readNumber 50 = .ok (.iconst 1, 1) := by decide +kernel
theorem dX10_readNumber_51 : decode cX10_readNumber 51 = .ok (.goto 4, 3) := by decide +kernel
theorem dX10_readNumber_54 : decode cX10_readNumber 54 = .ok (.iconst 0, 1) := by decide +kernel
theorem dX10_readNumber_55 : decode cX10_readNumber 55 = .ok (.iconst 2, 1) := by decide +kernel
theorem dX10_readNumber_56 : decode cX10_readNumber 56 = .ok (.invokevirtual 415, 3) := by decide +kernel
theorem dX10_readNumber_59 : decode cX10_readNumber 59 = .ok (.aload_n 0, 1) := by decide +kernel
theorem dX10_readNumber_60 : decode cX10_readNumber 60 = .ok (.invokevirtual 419, 3) := by decide +kernel
theorem dX10_readNumber_63 : decode cX10_readNumber 63 = .ok (.aload_n 0, 1) := by decide +kernel
theorem dX10_readNumber_64 : decode cX10_readNumber 64 = .ok (.getfield 389, 3) := by decide +kernel
theorem dX10_readNumber_67 : decode cX10_readNumber 67 = .ok (.ifCond .ne 7, 3) := by decide +kernel
theorem dX10_readNumber_70 : decode cX10_readNumber 70 = .ok (.iload_n 3, 1) := by decide +kernel
theorem dX10_readNumber_71 : decode cX10_readNumber 71 = .ok (.goto 4, 3) := by decide +kernel
theorem dX10_readNumber_74 : decode cX10_readNumber 74 = .ok (.iload_n 1, 1) := by decide +kernel
theorem dX10_readNumber_75 : decode cX10_readNumber 75 = .ok (.ireturn, 1) := by decide +kernel
theorem dX10_nameHere_0 : decode cX10_nameHere 0 = .ok (.lconst 0, 1) := by decide +kernel
theorem dX10_nameHere_1 : decode cX10_nameHere 1 = .ok (.lstore_n 1, 1) := by decide +kernel
theorem dX10_nameHere_2 : decode cX10_nameHere 2 = .ok (.aload_n 0, 1) := by decide +kernel
theorem dX10_nameHere_3 : decode cX10_nameHere 3 = .ok (.getfield 377, 3) := by decide +kernel
theorem dX10_nameHere_6 : decode cX10_nameHere 6 = .ok (.istore_n 3, 1) := by decide +kernel
theorem dX10_nameHere_7 : decode cX10_nameHere 7 = .ok (.iload_n 3, 1) := by decide +kernel
theorem dX10_nameHere_8 : decode cX10_nameHere 8 = .ok (.aload_n 0, 1) := by decide +kernel
theorem dX10_nameHere_9 : decode cX10_nameHere 9 = .ok (.getfield 374, 3) := by decide +kernel
theorem dX10_nameHere_12 : decode cX10_nameHere 12 = .ok (.if_icmp .ge 29, 3) := by decide +kernel
theorem dX10_nameHere_15 : decode cX10_nameHere 15 = .ok (.ldc2_w 203, 3) := by decide +kernel
theorem dX10_nameHere_18 : decode cX10_nameHere 18 = .ok (.lload_n 1, 1) := by decide +kernel
theorem dX10_nameHere_19 : decode cX10_nameHere 19 = .ok (.lmul, 1) := by decide +kernel
theorem dX10_nameHere_20 : decode cX10_nameHere 20 = .ok (.aload_n 0, 1) := by decide +kernel
theorem dX10_nameHere_21 : decode cX10_nameHere 21 = .ok (.getfield 63, 3) := by decide +kernel
theorem dX10_nameHere_24 : decode cX10_nameHere 24 = .ok (.iload_n 3, 1) := by decide +kernel
theorem dX10_nameHere_25 : decode cX10_nameHere 25 = .ok (.iaload, 1) := by decide +kernel
theorem dX10_nameHere_26 : decode cX10_nameHere 26 = .ok (.i2l, 1) := by decide +kernel
theorem dX10_nameHere_27 : decode cX10_nameHere 27 = .ok (.ladd, 1) := by decide +kernel
theorem dX10_nameHere_28 : decode cX10_nameHere 28 = .ok (.ldc2_w 432, 3) := by decide +kernel
theorem dX10_nameHere_31 : decode cX10_nameHere 31 = .ok (.lsub, 1) := by decide +kernel
theorem dX10_nameHere_32 : decode cX10_nameHere 32 = .ok (.lconst 1, 1) := by decide +kernel
theorem dX10_nameHere_33 : decode cX10_nameHere 33 = .ok (.ladd, 1) := by decide +kernel
theorem dX10_nameHere_34 : decode cX10_nameHere 34 = .ok (.lstore_n 1, 1) := by decide +kernel
theorem dX10_nameHere_35 : decode cX10_nameHere 35 = .ok (.iinc 3 1, 3) := by decide +kernel
theorem dX10_nameHere_38 : decode cX10_nameHere 38 = .ok (.goto (-31), 3) := by decide +kernel
theorem dX10_nameHere_41 : decode cX10_nameHere 41 = .ok (.lload_n 1, 1) := by decide +kernel
theorem dX10_nameHere_42 : decode cX10_nameHere 42 = .ok (.lreturn, 1) := by decide +kernel
theorem dX10_personHere_0 : decode cX10_personHere 0 = .ok (.iconst 0, 1) := by decide +kernel
theorem dX10_personHere_1 : decode cX10_personHere 1 = .ok (.istore_n 1, 1) := by decide +kernel
theorem dX10_personHere_2 : decode cX10_personHere 2 = .ok (.iload_n 1, 1) := by decide +kernel
theorem dX10_personHere_3 : decode cX10_personHere 3 = .ok (.aload_n 0, 1) := by decide +kernel
theorem dX10_personHere_4 : decode cX10_personHere 4 = .ok (.invokevirtual 121, 3) := by decide +kernel
theorem dX10_personHere_7 : decode cX10_personHere 7 = .ok (.if_icmp .ge 47, 3) := by decide +kernel
theorem dX10_personHere_10 : decode cX10_personHere 10 = .ok (.aload_n 0, 1) := by decide +kernel
theorem dX10_personHere_11 : decode cX10_personHere 11 = .ok (.getfield 380, 3) := by decide +kernel
theorem dX10_personHere_14 : decode cX10_personHere 14 = .ok (.iconst 1, 1) := by decide +kernel
theorem dX10_personHere_15 : decode cX10_personHere 15 = .ok (.if_icmp .ne 39, 3) := by decide +kernel
theorem dX10_personHere_18 : decode cX10_personHere 18 = .ok (.aload_n 0, 1) := by decide +kernel
theorem dX10_personHere_19 : decode cX10_personHere 19 = .ok (.getfield 374, 3) := by decide +kernel
theorem dX10_personHere_22 : decode cX10_personHere 22 = .ok (.aload_n 0, 1) := by decide +kernel
theorem dX10_personHere_23 : decode cX10_personHere 23 = .ok (.getfield 377, 3) := by decide +kernel
theorem dX10_personHere_26 : decode cX10_personHere 26 = .ok (.isub, 1) := by decide +kernel
theorem dX10_personHere_27 : decode cX10_personHere 27 = .ok (.bipush 8, 2) := by decide +kernel
theorem dX10_personHere_29 : decode cX10_personHere 29 = .ok (.if_icmp .gt 25, 3) := by decide +kernel
theorem dX10_personHere_32 : decode cX10_personHere 32 = .ok (.aload_n 0, 1) := by decide +kernel
theorem dX10_personHere_33 : decode cX10_personHere 33 = .ok (.iload_n 1, 1) := by decide +kernel
theorem dX10_personHere_34 : decode cX10_personHere 34 = .ok (.iconst 2, 1) := by decide +kernel
theorem dX10_personHere_35 : decode cX10_personHere 35 = .ok (.invokevirtual 98, 3) := by decide +kernel
theorem dX10_personHere_38 : decode cX10_personHere 38 = .ok (.aload_n 0, 1) := by decide +kernel
theorem dX10_personHere_39 : decode cX10_personHere 39 = .ok (.invokevirtual 434, 3) := by decide +kernel
theorem dX10_personHere_42 : decode cX10_personHere 42 = .ok (.lcmp, 1) := by decide +kernel
theorem dX10_personHere_43 : decode cX10_personHere 43 = .ok (.ifCond .ne 5, 3) := by decide +kernel
theorem dX10_personHere_46 : decode cX10_personHere 46 = .ok (.iload_n 1, 1) := by decide +kernel
theorem dX10_personHere_47 : decode cX10_personHere 47 = .ok (.ireturn, 1) := by decide +kernel
theorem dX10_personHere_48 : decode cX10_personHere 48 = .ok (.iinc 1 1, 3) := by decide +kernel
theorem dX10_personHere_51 : decode cX10_personHere 51 = .ok (.goto (-49), 3) := by decide +kernel
theorem dX10_personHere_54 : decode cX10_personHere 54 = .ok (.iconst (-1), 1) := by decide +kernel
theorem dX10_personHere_55 : decode cX10_personHere 55 = .ok (.ireturn, 1) := by decide +kernel
theorem dX10_readPerson_0 : decode cX10_readPerson 0 = .ok (.aload_n 0, 1) := by decide +kernel
theorem dX10_readPerson_1 : decode cX10_readPerson 1 = .ok (.aload_n 0, 1) := by decide +kernel
theorem dX10_readPerson_2 : decode cX10_readPerson 2 = .ok (.invokevirtual 121, 3) := by decide +kernel
theorem dX10_readPerson_5 : decode cX10_readPerson 5 = .ok (.bipush 16, 2) := by decide +kernel
theorem dX10_readPerson_7 : decode cX10_readPerson 7 = .ok (.if_icmp .ge 7, 3) := by decide +kernel
theorem dX10_readPerson_10 : decode cX10_readPerson 10 = .ok (.iconst 1, 1) := by decide +kernel
theorem dX10_readPerson_11 : decode cX10_readPerson 11 = .ok (.goto 4, 3) := by decide +kernel
theorem dX10_readPerson_14 : decode cX10_readPerson 14 = .ok (.iconst 0, 1) := by decide +kernel
theorem dX10_readPerson_15 : decode cX10_readPerson 15 = .ok (.iconst 3, 1) := by decide +kernel
theorem dX10_readPerson_16 : decode cX10_readPerson 16 = .ok (.invokevirtual 415, 3) := by decide +kernel
theorem dX10_readPerson_19 : decode cX10_readPerson 19 = .ok (.aload_n 0, 1) := by decide +kernel
theorem dX10_readPerson_20 : decode cX10_readPerson 20 = .ok (.invokevirtual 419, 3) := by decide +kernel
theorem dX10_readPerson_23 : decode cX10_readPerson 23 = .ok (.aload_n 0, 1) := by decide +kernel
theorem dX10_readPerson_24 : decode cX10_readPerson 24 = .ok (.aload_n 0, 1) := by decide +kernel
theorem dX10_readPerson_25 : decode cX10_readPerson 25 = .ok (.getfield 389, 3) := by decide +kernel
theorem dX10_readPerson_28 : decode cX10_readPerson 28 = .ok (.ifCond .ne 25, 3) := by decide +kernel
theorem dX10_readPerson_31 : decode cX10_readPerson 31 = .ok (.aload_n 0, 1) := by decide +kernel
theorem dX10_readPerson_32 : decode cX10_readPerson 32 = .ok (.getfield 380, 3) := by decide +kernel
theorem dX10_readPerson_35 : decode cX10_readPerson 35 = .ok (.iconst 1, 1) := by decide +kernel
theorem dX10_readPerson_36 : decode cX10_readPerson 36 = .ok (.if_icmp .ne 21, 3) := by decide +kernel
theorem dX10_readPerson_39 : decode cX10_readPerson 39 = .ok (.aload_n 0, 1) := by decide +kernel
theorem dX10_readPerson_40 : decode cX10_readPerson 40 = .ok (.getfield 374, 3) := by decide +kernel
theorem dX10_readPerson_43 : decode cX10_readPerson 43 = .ok (.aload_n 0, 1) := by decide +kernel
theorem dX10_readPerson_44 : decode cX10_readPerson 44 = .ok (.getfield 377, 3) := by decide +kernel
theorem dX10_readPerson_47 : decode cX10_readPerson 47 = .ok (.isub, 1) := by decide +kernel
theorem dX10_readPerson_48 : decode cX10_readPerson 48 = .ok (.bipush 8, 2) := by decide +kernel
theorem dX10_readPerson_50 : decode cX10_readPerson 50 = .ok (.if_icmp .gt 7, 3) := by decide +kernel
theorem dX10_readPerson_53 : decode cX10_readPerson 53 = .ok (.iconst 1, 1) := by decide +kernel
theorem dX10_readPerson_54 : decode cX10_readPerson 54 = .ok (.goto 4, 3) := by decide +kernel
theorem dX10_readPerson_57 : decode cX10_readPerson 57 = .ok (.iconst 0, 1) := by decide +kernel
theorem dX10_readPerson_58 : decode cX10_readPerson 58 = .ok (.iconst 1, 1) := by decide +kernel
theorem dX10_readPerson_59 : decode cX10_readPerson 59 = .ok (.invokevirtual 415, 3) := by decide +kernel
theorem dX10_readPerson_62 : decode cX10_readPerson 62 = .ok (.aload_n 0, 1) := by decide +kernel
theorem dX10_readPerson_63 : decode cX10_readPerson 63 = .ok (.aload_n 0, 1) := by decide +kernel
theorem dX10_readPerson_64 : decode cX10_readPerson 64 = .ok (.getfield 389, 3) := by decide +kernel
theorem dX10_readPerson_67 : decode cX10_readPerson 67 = .ok (.ifCond .ne 11, 3) := by decide +kernel
theorem dX10_readPerson_70 : decode cX10_readPerson 70 = .ok (.aload_n 0, 1) := by decide +kernel
theorem dX10_readPerson_71 : decode cX10_readPerson 71 = .ok (.invokevirtual 438, 3) := by decide +kernel
theorem dX10_readPerson_74 : decode cX10_readPerson 74 = .ok (.iconst (-1), 1) := by decide +kernel
theorem dX10_readPerson_75 : decode cX10_readPerson 75 = .ok (.if_icmp .ne 7, 3) := by decide +kernel
theorem dX10_readPerson_78 : decode cX10_readPerson 78 = .ok (.iconst 1, 1) := by decide +kernel
theorem dX10_readPerson_79 : decode cX10_readPerson 79 = .ok (.goto 4, 3) := by decide +kernel
theorem dX10_readPerson_82 : decode cX10_readPerson 82 = .ok (.iconst 0, 1) := by decide +kernel
theorem dX10_readPerson_83 : decode cX10_readPerson 83 = .ok (.iconst 4, 1) := by decide +kernel
theorem dX10_readPerson_84 : decode cX10_readPerson 84 = .ok (.invokevirtual 415, 3) := by decide +kernel
theorem dX10_readPerson_87 : decode cX10_readPerson 87 = .ok (.aload_n 0, 1) := by decide +kernel
theorem dX10_readPerson_88 : decode cX10_readPerson 88 = .ok (.getfield 389, 3) := by decide +kernel
theorem dX10_readPerson_91 : decode cX10_readPerson 91 = .ok (.ifCond .eq 4, 3) := by decide +kernel
theorem dX10_readPerson_94 : decode cX10_readPerson 94 = .ok (.return_, 1) := by decide +kernel
theorem dX10_readPerson_95 : decode cX10_readPerson 95 = .ok (.aload_n 0, 1) := by decide +kernel
theorem dX10_readPerson_96 : decode cX10_readPerson 96 = .ok (.invokevirtual 121, 3) := by decide +kernel
theorem dX10_readPerson_99 : decode cX10_readPerson 99 = .ok (.istore_n 1, 1) := by decide +kernel
theorem dX10_readPerson_100 : decode cX10_readPerson 100 = .ok (.aload_n 0, 1) := by decide +kernel
theorem dX10_readPerson_101 : decode cX10_readPerson 101 = .ok (.iload_n 1, 1) := by decide +kernel
theorem dX10_readPerson_102 : decode cX10_readPerson 102 = .ok (.iconst 2, 1) := by decide +kernel
theorem dX10_readPerson_103 : decode cX10_readPerson 103 = .ok (.aload_n 0, 1) := by decide +kernel
theorem dX10_readPerson_104 : decode cX10_readPerson 104 = .ok (.invokevirtual 434, 3) := by decide +kernel
theorem dX10_readPerson_107 : decode cX10_readPerson 107 = .ok (.invokevirtual 339, 3) := by decide +kernel
theorem dX10_readPerson_110 : decode cX10_readPerson 110 = .ok (.aload_n 0, 1) := by decide +kernel
theorem dX10_readPerson_111 : decode cX10_readPerson 111 = .ok (.iload_n 1, 1) := by decide +kernel
theorem dX10_readPerson_112 : decode cX10_readPerson 112 = .ok (.iconst 3, 1) := by decide +kernel
theorem dX10_readPerson_113 : decode cX10_readPerson 113 = .ok (.aload_n 0, 1) := by decide +kernel
theorem dX10_readPerson_114 : decode cX10_readPerson 114 = .ok (.getfield 374, 3) := by decide +kernel
theorem dX10_readPerson_117 : decode cX10_readPerson 117 = .ok (.aload_n 0, 1) := by decide +kernel
theorem dX10_readPerson_118 : decode cX10_readPerson 118 = .ok (.getfield 377, 3) := by decide +kernel
theorem dX10_readPerson_121 : decode cX10_readPerson 121 = .ok (.isub, 1) := by decide +kernel
theorem dX10_readPerson_122 : decode cX10_readPerson 122 = .ok (.i2l, 1) := by decide +kernel
theorem dX10_readPerson_123 : decode cX10_readPerson 123 = .ok (.invokevirtual 339, 3) := by decide +kernel
theorem dX10_readPerson_126 : decode cX10_readPerson 126 = .ok (.aload_n 0, 1) := by decide +kernel
theorem dX10_readPerson_127 : decode cX10_readPerson 127 = .ok (.iload_n 1, 1) := by decide +kernel
theorem dX10_readPerson_128 : decode cX10_readPerson 128 = .ok (.iconst 1, 1) := by decide +kernel
theorem dX10_readPerson_129 : decode cX10_readPerson 129 = .ok (.ldc2_w 260, 3) := by decide +kernel
theorem dX10_readPerson_132 : decode cX10_readPerson 132 = .ok (.invokevirtual 339, 3) := by decide +kernel
theorem dX10_readPerson_135 : decode cX10_readPerson 135 = .ok (.aload_n 0, 1) := by decide +kernel
theorem dX10_readPerson_136 : decode cX10_readPerson 136 = .ok (.invokevirtual 419, 3) := by decide +kernel
theorem dX10_readPerson_139 : decode cX10_readPerson 139 = .ok (.aload_n 0, 1) := by decide +kernel
theorem dX10_readPerson_140 : decode cX10_readPerson 140 = .ok (.iload_n 1, 1) := by decide +kernel
theorem dX10_readPerson_141 : decode cX10_readPerson 141 = .ok (.iconst 0, 1) := by decide +kernel
theorem dX10_readPerson_142 : decode cX10_readPerson 142 = .ok (.aload_n 0, 1) := by decide +kernel
theorem dX10_readPerson_143 : decode cX10_readPerson 143 = .ok (.iconst 0, 1) := by decide +kernel
theorem dX10_readPerson_144 : decode cX10_readPerson 144 = .ok (.sipush 2100, 3) := by decide +kernel
theorem dX10_readPerson_147 : decode cX10_readPerson 147 = .ok (.invokevirtual 441, 3) := by decide +kernel
theorem dX10_readPerson_150 : decode cX10_readPerson 150 = .ok (.i2l, 1) := by decide +kernel
theorem dX10_readPerson_151 : decode cX10_readPerson 151 = .ok (.invokevirtual 339, 3) := by decide +kernel
theorem dX10_readPerson_154 : decode cX10_readPerson 154 = .ok (.aload_n 0, 1) := by decide +kernel
theorem dX10_readPerson_155 : decode cX10_readPerson 155 = .ok (.getfield 22, 3) := by decide +kernel
theorem dX10_readPerson_158 : decode cX10_readPerson 158 = .ok (.iconst 0, 1) := by decide +kernel
theorem dX10_readPerson_159 : decode cX10_readPerson 159 = .ok (.dup2, 1) := by decide +kernel
theorem dX10_readPerson_160 : decode cX10_readPerson 160 = .ok (.laload, 1) := by decide +kernel
theorem dX10_readPerson_161 : decode cX10_readPerson 161 = .ok (.lconst 1, 1) := by decide +kernel
theorem dX10_readPerson_162 : decode cX10_readPerson 162 = .ok (.ladd, 1) := by decide +kernel
theorem dX10_readPerson_163 : decode cX10_readPerson 163 = .ok (.lastore, 1) := by decide +kernel
theorem dX10_readPerson_164 : decode cX10_readPerson 164 = .ok (.return_, 1) := by decide +kernel
theorem dX10_readName_0 : decode cX10_readName 0 = .ok (.aload_n 0, 1) := by decide +kernel
theorem dX10_readName_1 : decode cX10_readName 1 = .ok (.aload_n 0, 1) := by decide +kernel
theorem dX10_readName_2 : decode cX10_readName 2 = .ok (.getfield 389, 3) := by decide +kernel
theorem dX10_readName_5 : decode cX10_readName 5 = .ok (.ifCond .ne 11, 3) := by decide +kernel
theorem dX10_readName_8 : decode cX10_readName 8 = .ok (.aload_n 0, 1) := by decide +kernel
theorem dX10_readName_9 : decode cX10_readName 9 = .ok (.getfield 380, 3) := by decide +kernel
theorem dX10_readName_12 : decode cX10_readName 12 = .ok (.iconst 1, 1) := by decide +kernel
theorem dX10_readName_13 : decode cX10_readName 13 = .ok (.if_icmp .ne 7, 3) := by decide +kernel
theorem dX10_readName_16 : decode cX10_readName 16 = .ok (.iconst 1, 1) := by decide +kernel
theorem dX10_readName_17 : decode cX10_readName 17 = .ok (.goto 4, 3) := by decide +kernel
theorem dX10_readName_20 : decode cX10_readName 20 = .ok (.iconst 0, 1) := by decide +kernel
theorem dX10_readName_21 : decode cX10_readName 21 = .ok (.iconst 1, 1) := by decide +kernel
theorem dX10_readName_22 : decode cX10_readName 22 = .ok (.invokevirtual 415, 3) := by decide +kernel
theorem dX10_readName_25 : decode cX10_readName 25 = .ok (.aload_n 0, 1) := by decide +kernel
theorem dX10_readName_26 : decode cX10_readName 26 = .ok (.getfield 389, 3) := by decide +kernel
theorem dX10_readName_29 : decode cX10_readName 29 = .ok (.ifCond .eq 7, 3) := by decide +kernel
theorem dX10_readName_32 : decode cX10_readName 32 = .ok (.iconst (-1), 1) := by decide +kernel
theorem dX10_readName_33 : decode cX10_readName 33 = .ok (.goto 7, 3) := by decide +kernel
theorem dX10_readName_36 : decode cX10_readName 36 = .ok (.aload_n 0, 1) := by decide +kernel
theorem dX10_readName_37 : decode cX10_readName 37 = .ok (.invokevirtual 438, 3) := by decide +kernel
theorem dX10_readName_40 : decode cX10_readName 40 = .ok (.istore_n 1, 1) := by decide +kernel
theorem dX10_readName_41 : decode cX10_readName 41 = .ok (.aload_n 0, 1) := by decide +kernel
theorem dX10_readName_42 : decode cX10_readName 42 = .ok (.aload_n 0, 1) := by decide +kernel
theorem dX10_readName_43 : decode cX10_readName 43 = .ok (.getfield 389, 3) := by decide +kernel
theorem dX10_readName_46 : decode cX10_readName 46 = .ok (.ifCond .ne 8, 3) := by decide +kernel
theorem dX10_readName_49 : decode cX10_readName 49 = .ok (.iload_n 1, 1) := by decide +kernel
theorem dX10_readName_50 : decode cX10_readName 50 = .ok (.iconst (-1), 1) := by decide +kernel
theorem dX10_readName_51 : decode cX10_readName 51 = .ok (.if_icmp .eq 7, 3) := by decide +kernel
theorem dX10_readName_54 : decode cX10_readName 54 = .ok (.iconst 1, 1) := by decide +kernel
theorem dX10_readName_55 : decode cX10_readName 55 = .ok (.goto 4, 3) := by decide +kernel
theorem dX10_readName_58 : decode cX10_readName 58 = .ok (.iconst 0, 1) := by decide +kernel
theorem dX10_readName_59 : decode cX10_readName 59 = .ok (.iconst 4, 1) := by decide +kernel
theorem dX10_readName_60 : decode cX10_readName 60 = .ok (.invokevirtual 415, 3) := by decide +kernel
theorem dX10_readName_63 : decode cX10_readName 63 = .ok (.iload_n 1, 1) := by decide +kernel
theorem dX10_readName_64 : decode cX10_readName 64 = .ok (.ireturn, 1) := by decide +kernel
theorem dX10_readChild_0 : decode cX10_readChild 0 = .ok (.aload_n 0, 1) := by decide +kernel
theorem dX10_readChild_1 : decode cX10_readChild 1 = .ok (.invokevirtual 444, 3) := by decide +kernel
theorem dX10_readChild_4 : decode cX10_readChild 4 = .ok (.istore_n 2, 1) := by decide +kernel
theorem dX10_readChild_5 : decode cX10_readChild 5 = .ok (.aload_n 0, 1) := by decide +kernel
theorem dX10_readChild_6 : decode cX10_readChild 6 = .ok (.aload_n 0, 1) := by decide +kernel
theorem dX10_readChild_7 : decode cX10_readChild 7 = .ok (.getfield 389, 3) := by decide +kernel
theorem dX10_readChild_10 : decode cX10_readChild 10 = .ok (.ifCond .ne 21, 3) := by decide +kernel
theorem dX10_readChild_13 : decode cX10_readChild 13 = .ok (.aload_n 0, 1) := by decide +kernel
theorem dX10_readChild_14 : decode cX10_readChild 14 = .ok (.iload_n 2, 1) := by decide +kernel
theorem dX10_readChild_15 : decode cX10_readChild 15 = .ok (.invokevirtual 117, 3) := by decide +kernel
theorem dX10_readChild_18 : decode cX10_readChild 18 = .ok (.iconst (-1), 1) := by decide +kernel
theorem dX10_readChild_19 : decode cX10_readChild 19 = .ok (.if_icmp .ne 16, 3) := by decide +kernel
theorem dX10_readChild_22 : decode cX10_readChild 22 = .ok (.aload_n 0, 1) := by decide +kernel
theorem dX10_readChild_23 : decode cX10_readChild 23 = .ok (.iload_n 1, 1) := by decide +kernel
theorem dX10_readChild_24 : decode cX10_readChild 24 = .ok (.iload_n 2, 1) := by decide +kernel
theorem dX10_readChild_25 : decode cX10_readChild 25 = .ok (.invokevirtual 336, 3) := by decide +kernel
theorem dX10_readChild_28 : decode cX10_readChild 28 = .ok (.ifCond .ne 7, 3) := by decide +kernel
theorem dX10_readChild_31 : decode cX10_readChild 31 = .ok (.iconst 1, 1) := by decide +kernel
theorem dX10_readChild_32 : decode cX10_readChild 32 = .ok (.goto 4, 3) := by decide +kernel
theorem dX10_readChild_35 : decode cX10_readChild 35 = .ok (.iconst 0, 1) := by decide +kernel
theorem dX10_readChild_36 : decode cX10_readChild 36 = .ok (.iconst 5, 1) := by decide +kernel
theorem dX10_readChild_37 : decode cX10_readChild 37 = .ok (.invokevirtual 415, 3) := by decide +kernel
theorem dX10_readChild_40 : decode cX10_readChild 40 = .ok (.aload_n 0, 1) := by decide +kernel
theorem dX10_readChild_41 : decode cX10_readChild 41 = .ok (.getfield 389, 3) := by decide +kernel
theorem dX10_readChild_44 : decode cX10_readChild 44 = .ok (.ifCond .ne 11, 3) := by decide +kernel
theorem dX10_readChild_47 : decode cX10_readChild 47 = .ok (.aload_n 0, 1) := by decide +kernel
theorem dX10_readChild_48 : decode cX10_readChild 48 = .ok (.iload_n 2, 1) := by decide +kernel
theorem dX10_readChild_49 : decode cX10_readChild 49 = .ok (.iconst 1, 1) := by decide +kernel
theorem dX10_readChild_50 : decode cX10_readChild 50 = .ok (.iload_n 1, 1) := by decide +kernel
theorem dX10_readChild_51 : decode cX10_readChild 51 = .ok (.i2l, 1) := by decide +kernel
theorem dX10_readChild_52 : decode cX10_readChild 52 = .ok (.invokevirtual 339, 3) := by decide +kernel
theorem dX10_readChild_55 : decode cX10_readChild 55 = .ok (.aload_n 0, 1) := by decide +kernel
theorem dX10_readChild_56 : decode cX10_readChild 56 = .ok (.invokevirtual 419, 3) := by decide +kernel
theorem dX10_readChild_59 : decode cX10_readChild 59 = .ok (.return_, 1) := by decide +kernel
theorem dX10_readUnion_0 : decode cX10_readUnion 0 = .ok (.aload_n 0, 1) := by decide +kernel
theorem dX10_readUnion_1 : decode cX10_readUnion 1 = .ok (.aload_n 0, 1) := by decide +kernel
theorem dX10_readUnion_2 : decode cX10_readUnion 2 = .ok (.invokevirtual 110, 3) := by decide +kernel
theorem dX10_readUnion_5 : decode cX10_readUnion 5 = .ok (.bipush 12, 2) := by decide +kernel
theorem dX10_readUnion_7 : decode cX10_readUnion 7 = .ok (.if_icmp .ge 7, 3) := by decide +kernel
theorem dX10_readUnion_10 : decode cX10_readUnion 10 = .ok (.iconst 1, 1) := by decide +kernel
theorem dX10_readUnion_11 : decode cX10_readUnion 11 = .ok (.goto 4, 3) := by decide +kernel
theorem dX10_readUnion_14 : decode cX10_readUnion 14 = .ok (.iconst 0, 1) := by decide +kernel
theorem dX10_readUnion_15 : decode cX10_readUnion 15 = .ok (.iconst 3, 1) := by decide +kernel
theorem dX10_readUnion_16 : decode cX10_readUnion 16 = .ok (.invokevirtual 415, 3) := by decide +kernel
theorem dX10_readUnion_19 : decode cX10_readUnion 19 = .ok (.aload_n 0, 1) := by decide +kernel
theorem dX10_readUnion_20 : decode cX10_readUnion 20 = .ok (.invokevirtual 419, 3) := by decide +kernel
theorem dX10_readUnion_23 : decode cX10_readUnion 23 = .ok (.aload_n 0, 1) := by decide +kernel
theorem dX10_readUnion_24 : decode cX10_readUnion 24 = .ok (.invokevirtual 444, 3) := by decide +kernel
theorem dX10_readUnion_27 : decode cX10_readUnion 27 = .ok (.istore_n 1, 1) := by decide +kernel
theorem dX10_readUnion_28 : decode cX10_readUnion 28 = .ok (.aload_n 0, 1) := by decide +kernel
theorem dX10_readUnion_29 : decode cX10_readUnion 29 = .ok (.invokevirtual 419, 3) := by decide +kernel
theorem dX10_readUnion_32 : decode cX10_readUnion 32 = .ok (.aload_n 0, 1) := by decide +kernel
theorem dX10_readUnion_33 : decode cX10_readUnion 33 = .ok (.invokevirtual 444, 3) := by decide +kernel
theorem dX10_readUnion_36 : decode cX10_readUnion 36 = .ok (.istore_n 2, 1) := by decide +kernel
theorem dX10_readUnion_37 : decode cX10_readUnion 37 = .ok (.aload_n 0, 1) := by decide +kernel
theorem dX10_readUnion_38 : decode cX10_readUnion 38 = .ok (.aload_n 0, 1) := by decide +kernel
theorem dX10_readUnion_39 : decode cX10_readUnion 39 = .ok (.getfield 389, 3) := by decide +kernel
theorem dX10_readUnion_42 : decode cX10_readUnion 42 = .ok (.ifCond .ne 18, 3) := by decide +kernel
theorem dX10_readUnion_45 : decode cX10_readUnion 45 = .ok (.iload_n 1, 1) := by decide +kernel
theorem dX10_readUnion_46 : decode cX10_readUnion 46 = .ok (.iload_n 2, 1) := by decide +kernel
theorem dX10_readUnion_47 : decode cX10_readUnion 47 = .ok (.if_icmp .eq 17, 3) := by decide +kernel
theorem dX10_readUnion_50 : decode cX10_readUnion 50 = .ok (.aload_n 0, 1) := by decide +kernel
theorem dX10_readUnion_51 : decode cX10_readUnion 51 = .ok (.iload_n 1, 1) := by decide +kernel
theorem dX10_readUnion_52 : decode cX10_readUnion 52 = .ok (.iload_n 2, 1) := by decide +kernel
theorem dX10_readUnion_53 : decode cX10_readUnion 53 = .ok (.invokevirtual 324, 3) := by decide +kernel
theorem dX10_readUnion_56 : decode cX10_readUnion 56 = .ok (.iconst (-1), 1) := by decide +kernel
theorem dX10_readUnion_57 : decode cX10_readUnion 57 = .ok (.if_icmp .ne 7, 3) := by decide +kernel
theorem dX10_readUnion_60 : decode cX10_readUnion 60 = .ok (.iconst 1, 1) := by decide +kernel
theorem dX10_readUnion_61 : decode cX10_readUnion 61 = .ok (.goto 4, 3) := by decide +kernel
theorem dX10_readUnion_64 : decode cX10_readUnion 64 = .ok (.iconst 0, 1) := by decide +kernel
theorem dX10_readUnion_65 : decode cX10_readUnion 65 = .ok (.iconst 5, 1) := by decide +kernel
theorem dX10_readUnion_66 : decode cX10_readUnion 66 = .ok (.invokevirtual 415, 3) := by decide +kernel
theorem dX10_readUnion_69 : decode cX10_readUnion 69 = .ok (.aload_n 0, 1) := by decide +kernel
theorem dX10_readUnion_70 : decode cX10_readUnion 70 = .ok (.invokevirtual 419, 3) := by decide +kernel
theorem dX10_readUnion_73 : decode cX10_readUnion 73 = .ok (.aload_n 0, 1) := by decide +kernel
theorem dX10_readUnion_74 : decode cX10_readUnion 74 = .ok (.iconst 0, 1) := by decide +kernel
theorem dX10_readUnion_75 : decode cX10_readUnion 75 = .ok (.sipush 2100, 3) := by decide +kernel
theorem dX10_readUnion_78 : decode cX10_readUnion 78 = .ok (.invokevirtual 441, 3) := by decide +kernel
theorem dX10_readUnion_81 : decode cX10_readUnion 81 = .ok (.istore_n 3, 1) := by decide +kernel
theorem dX10_readUnion_82 : decode cX10_readUnion 82 = .ok (.aload_n 0, 1) := by decide +kernel
theorem dX10_readUnion_83 : decode cX10_readUnion 83 = .ok (.getfield 389, 3) := by decide +kernel
theorem dX10_readUnion_86 : decode cX10_readUnion 86 = .ok (.ifCond .eq 4, 3) := by decide +kernel
theorem dX10_readUnion_89 : decode cX10_readUnion 89 = .ok (.return_, 1) := by decide +kernel
theorem dX10_readUnion_90 : decode cX10_readUnion 90 = .ok (.aload_n 0, 1) := by decide +kernel
theorem dX10_readUnion_91 : decode cX10_readUnion 91 = .ok (.iload_n 1, 1) := by decide +kernel
theorem dX10_readUnion_92 : decode cX10_readUnion 92 = .ok (.iload_n 2, 1) := by decide +kernel
theorem dX10_readUnion_93 : decode cX10_readUnion 93 = .ok (.iload_n 3, 1) := by decide +kernel
theorem dX10_readUnion_94 : decode cX10_readUnion 94 = .ok (.invokevirtual 330, 3) := by decide +kernel
theorem dX10_readUnion_97 : decode cX10_readUnion 97 = .ok (.aload_n 0, 1) := by decide +kernel
theorem dX10_readUnion_98 : decode cX10_readUnion 98 = .ok (.getfield 389, 3) := by decide +kernel
theorem dX10_readUnion_101 : decode cX10_readUnion 101 = .ok (.ifCond .ne 24, 3) := by decide +kernel
theorem dX10_readUnion_104 : decode cX10_readUnion 104 = .ok (.aload_n 0, 1) := by decide +kernel
theorem dX10_readUnion_105 : decode cX10_readUnion 105 = .ok (.getfield 380, 3) := by decide +kernel
theorem dX10_readUnion_108 : decode cX10_readUnion 108 = .ok (.iconst 1, 1) := by decide +kernel
theorem dX10_readUnion_109 : decode cX10_readUnion 109 = .ok (.if_icmp .ne 16, 3) := by decide +kernel
theorem dX10_readUnion_112 : decode cX10_readUnion 112 = .ok (.aload_n 0, 1) := by decide +kernel
theorem dX10_readUnion_113 : decode cX10_readUnion 113 = .ok (.aload_n 0, 1) := by decide +kernel
theorem dX10_readUnion_114 : decode cX10_readUnion 114 = .ok (.invokevirtual 110, 3) := by decide +kernel
theorem dX10_readUnion_117 : decode cX10_readUnion 117 = .ok (.iconst 1, 1) := by decide +kernel
theorem dX10_readUnion_118 : decode cX10_readUnion 118 = .ok (.isub, 1) := by decide +kernel
theorem dX10_readUnion_119 : decode cX10_readUnion 119 = .ok (.invokevirtual 447, 3) := by decide +kernel
theorem dX10_readUnion_122 : decode cX10_readUnion 122 = .ok (.goto (-25), 3) := by decide +kernel
theorem dX10_readUnion_125 : decode cX10_readUnion 125 = .ok (.return_, 1) := by decide +kernel
theorem dX10_readClause_0 : decode cX10_readClause 0 = .ok (.aload_n 0, 1) := by decide +kernel
theorem dX10_readClause_1 : decode cX10_readClause 1 = .ok (.ldc 72, 2) := by decide +kernel
theorem dX10_readClause_3 : decode cX10_readClause 3 = .ok (.invokevirtual 411, 3) := by decide +kernel
theorem dX10_readClause_6 : decode cX10_readClause 6 = .ok (.ifCond .eq 10, 3) := by decide +kernel
theorem dX10_readClause_9 : decode cX10_readClause 9 = .ok (.aload_n 0, 1) := by decide +kernel
theorem dX10_readClause_10 : decode cX10_readClause 10 = .ok (.invokevirtual 450, 3) := by decide +kernel
theorem dX10_readClause_13 : decode cX10_readClause 13 = .ok (.goto 26, 3) := by decide +kernel
theorem dX10_readClause_16 : decode cX10_readClause 16 = .ok (.aload_n 0, 1) := by decide +kernel
theorem dX10_readClause_17 : decode cX10_readClause 17 = .ok (.ldc_w 453, 3) := by decide +kernel
theorem dX10_readClause_20 : decode cX10_readClause 20 = .ok (.invokevirtual 411, 3) := by decide +kernel
theorem dX10_readClause_23 : decode cX10_readClause 23 = .ok (.ifCond .eq 10, 3) := by decide +kernel
theorem dX10_readClause_26 : decode cX10_readClause 26 = .ok (.aload_n 0, 1) := by decide +kernel
theorem dX10_readClause_27 : decode cX10_readClause 27 = .ok (.invokevirtual 455, 3) := by decide +kernel
theorem dX10_readClause_30 : decode cX10_readClause 30 = .ok (.goto 9, 3) := by decide +kernel
theorem dX10_readClause_33 : decode cX10_readClause 33 = .ok (.aload_n 0, 1) := by decide +kernel
theorem dX10_readClause_34 : decode cX10_readClause 34 = .ok (.iconst 0, 1) := by decide +kernel
theorem dX10_readClause_35 : decode cX10_readClause 35 = .ok (.iconst 1, 1) := by decide +kernel
theorem dX10_readClause_36 : decode cX10_readClause 36 = .ok (.invokevirtual 415, 3) := by decide +kernel
theorem dX10_readClause_39 : decode cX10_readClause 39 = .ok (.aload_n 0, 1) := by decide +kernel
theorem dX10_readClause_40 : decode cX10_readClause 40 = .ok (.bipush 59, 2) := by decide +kernel
theorem dX10_readClause_42 : decode cX10_readClause 42 = .ok (.invokevirtual 458, 3) := by decide +kernel
theorem dX10_readClause_45 : decode cX10_readClause 45 = .ok (.return_, 1) := by decide +kernel
theorem dX10_load_0 : decode cX10_load 0 = .ok (.aload_n 0, 1) := by decide +kernel
theorem dX10_load_1 : decode cX10_load 1 = .ok (.iconst 0, 1) := by decide +kernel
theorem dX10_load_2 : decode cX10_load 2 = .ok (.putfield 95, 3) := by decide +kernel
theorem dX10_load_5 : decode cX10_load 5 = .ok (.iload_n 1, 1) := by decide +kernel
theorem dX10_load_6 : decode cX10_load 6 = .ok (.i2l, 1) := by decide +kernel
theorem dX10_load_7 : decode cX10_load 7 = .ok (.lconst 0, 1) := by decide +kernel
theorem dX10_load_8 : decode cX10_load 8 = .ok (.aload_n 0, 1) := by decide +kernel
theorem dX10_load_9 : decode cX10_load 9 = .ok (.getfield 365, 3) := by decide +kernel
theorem dX10_load_12 : decode cX10_load 12 = .ok (.i2l, 1) := by decide +kernel
theorem dX10_load_13 : decode cX10_load 13 = .ok (.invokestatic 106, 3) := by decide +kernel
theorem dX10_load_16 : decode cX10_load 16 = .ok (.ifCond .ne 9, 3) := by decide +kernel
theorem dX10_load_19 : decode cX10_load 19 = .ok (.aload_n 0, 1) := by decide +kernel
theorem dX10_load_20 : decode cX10_load 20 = .ok (.iconst 1, 1) := by decide +kernel
theorem dX10_load_21 : decode cX10_load 21 = .ok (.invokevirtual 240, 3) := by decide +kernel
theorem dX10_load_24 : decode cX10_load 24 = .ok (.ireturn, 1) := by decide +kernel
theorem dX10_load_25 : decode cX10_load 25 = .ok (.iconst 0, 1) := by decide +kernel
theorem dX10_load_26 : decode cX10_load 26 = .ok (.istore_n 2, 1) := by decide +kernel
theorem dX10_load_27 : decode cX10_load 27 = .ok (.iload_n 2, 1) := by decide +kernel
theorem dX10_load_28 : decode cX10_load 28 = .ok (.sipush 130, 3) := by decide +kernel
theorem dX10_load_31 : decode cX10_load 31 = .ok (.if_icmp .ge 16, 3) := by decide +kernel
theorem dX10_load_34 : decode cX10_load 34 = .ok (.aload_n 0, 1) := by decide +kernel
theorem dX10_load_35 : decode cX10_load 35 = .ok (.getfield 13, 3) := by decide +kernel
theorem dX10_load_38 : decode cX10_load 38 = .ok (.iload_n 2, 1) := by decide +kernel
theorem dX10_load_39 : decode cX10_load 39 = .ok (.lconst 0, 1) := by decide +kernel
theorem dX10_load_40 : decode cX10_load 40 = .ok (.lastore, 1) := by decide +kernel
theorem dX10_load_41 : decode cX10_load 41 = .ok (.iinc 2 1, 3) := by decide +kernel
theorem dX10_load_44 : decode cX10_load 44 = .ok (.goto (-17), 3) := by decide +kernel
theorem dX10_load_47 : decode cX10_load 47 = .ok (.aload_n 0, 1) := by decide +kernel
theorem dX10_load_48 : decode cX10_load 48 = .ok (.aload_n 0, 1) := by decide +kernel
theorem dX10_load_49 : decode cX10_load 49 = .ok (.getfield 13, 3) := by decide +kernel
theorem dX10_load_52 : decode cX10_load 52 = .ok (.putfield 22, 3) := by decide +kernel
theorem dX10_load_55 : decode cX10_load 55 = .ok (.aload_n 0, 1) := by decide +kernel
theorem dX10_load_56 : decode cX10_load 56 = .ok (.iload_n 1, 1) := by decide +kernel
theorem dX10_load_57 : decode cX10_load 57 = .ok (.invokevirtual 461, 3) := by decide +kernel
theorem dX10_load_60 : decode cX10_load 60 = .ok (.aload_n 0, 1) := by decide +kernel
theorem dX10_load_61 : decode cX10_load 61 = .ok (.getfield 389, 3) := by decide +kernel
theorem dX10_load_64 : decode cX10_load 64 = .ok (.ifCond .ne 17, 3) := by decide +kernel
theorem dX10_load_67 : decode cX10_load 67 = .ok (.aload_n 0, 1) := by decide +kernel
theorem dX10_load_68 : decode cX10_load 68 = .ok (.getfield 380, 3) := by decide +kernel
theorem dX10_load_71 : decode cX10_load 71 = .ok (.ifCond .eq 10, 3) := by decide +kernel
theorem dX10_load_74 : decode cX10_load 74 = .ok (.aload_n 0, 1) := by decide +kernel
theorem dX10_load_75 : decode cX10_load 75 = .ok (.invokevirtual 464, 3) := by decide +kernel
theorem dX10_load_78 : decode cX10_load 78 = .ok (.goto (-18), 3) := by decide +kernel
theorem dX10_load_81 : decode cX10_load 81 = .ok (.aload_n 0, 1) := by decide +kernel
theorem dX10_load_82 : decode cX10_load 82 = .ok (.invokevirtual 467, 3) := by decide +kernel
theorem dX10_load_85 : decode cX10_load 85 = .ok (.ifCond .ne 7, 3) := by decide +kernel
theorem dX10_load_88 : decode cX10_load 88 = .ok (.iconst 1, 1) := by decide +kernel
theorem dX10_load_89 : decode cX10_load 89 = .ok (.goto 4, 3) := by decide +kernel
theorem dX10_load_92 : decode cX10_load 92 = .ok (.iconst 0, 1) := by decide +kernel
theorem dX10_load_93 : decode cX10_load 93 = .ok (.istore_n 2, 1) := by decide +kernel
theorem dX10_load_94 : decode cX10_load 94 = .ok (.iload_n 2, 1) := by decide +kernel
theorem dX10_load_95 : decode cX10_load 95 = .ok (.ifCond .eq 7, 3) := by decide +kernel
theorem dX10_load_98 : decode cX10_load 98 = .ok (.aload_n 0, 1) := by decide +kernel
theorem dX10_load_99 : decode cX10_load 99 = .ok (.invokevirtual 333, 3) := by decide +kernel
theorem dX10_load_102 : decode cX10_load 102 = .ok (.aload_n 0, 1) := by decide +kernel
theorem dX10_load_103 : decode cX10_load 103 = .ok (.aload_n 0, 1) := by decide +kernel
theorem dX10_load_104 : decode cX10_load 104 = .ok (.getfield 9, 3) := by decide +kernel
theorem dX10_load_107 : decode cX10_load 107 = .ok (.putfield 22, 3) := by decide +kernel
theorem dX10_load_110 : decode cX10_load 110 = .ok (.iload_n 2, 1) := by decide +kernel
theorem dX10_load_111 : decode cX10_load 111 = .ok (.ifCond .ne 11, 3) := by decide +kernel
theorem dX10_load_114 : decode cX10_load 114 = .ok (.bipush (-10), 2) := by decide +kernel
theorem dX10_load_116 : decode cX10_load 116 = .ok (.aload_n 0, 1) := by decide +kernel
theorem dX10_load_117 : decode cX10_load 117 = .ok (.getfield 389, 3) := by decide +kernel
theorem dX10_load_120 : decode cX10_load 120 = .ok (.isub, 1) := by decide +kernel
theorem dX10_load_121 : decode cX10_load 121 = .ok (.ireturn, 1) := by decide +kernel
theorem dX10_load_122 : decode cX10_load 122 = .ok (.aload_n 0, 1) := by decide +kernel
theorem dX10_load_123 : decode cX10_load 123 = .ok (.getfield 13, 3) := by decide +kernel
theorem dX10_load_126 : decode cX10_load 126 = .ok (.iconst 0, 1) := by decide +kernel
theorem dX10_load_127 : decode cX10_load 127 = .ok (.aload_n 0, 1) := by decide +kernel
theorem dX10_load_128 : decode cX10_load 128 = .ok (.getfield 9, 3) := by decide +kernel
theorem dX10_load_131 : decode cX10_load 131 = .ok (.iconst 0, 1) := by decide +kernel
theorem dX10_load_132 : decode cX10_load 132 = .ok (.invokestatic 357, 3) := by decide +kernel
theorem dX10_load_135 : decode cX10_load 135 = .ok (.aload_n 0, 1) := by decide +kernel
theorem dX10_load_136 : decode cX10_load 136 = .ok (.iconst 0, 1) := by decide +kernel
theorem dX10_load_137 : decode cX10_load 137 = .ok (.putfield 354, 3) := by decide +kernel
theorem dX10_load_140 : decode cX10_load 140 = .ok (.aload_n 0, 1) := by decide +kernel
theorem dX10_load_141 : decode cX10_load 141 = .ok (.iconst 0, 1) := by decide +kernel
theorem dX10_load_142 : decode cX10_load 142 = .ok (.putfield 361, 3) := by decide +kernel
theorem dX10_load_145 : decode cX10_load 145 = .ok (.aload_n 0, 1) := by decide +kernel
theorem dX10_load_146 : decode cX10_load 146 = .ok (.invokevirtual 121, 3) := by decide +kernel
theorem dX10_load_149 : decode cX10_load 149 = .ok (.ireturn, 1) := by decide +kernel
theorem dX10_emit_0 : decode cX10_emit 0 = .ok (.aload_n 0, 1) := by decide +kernel
theorem dX10_emit_1 : decode cX10_emit 1 = .ok (.getfield 389, 3) := by decide +kernel
theorem dX10_emit_4 : decode cX10_emit 4 = .ok (.ifCond .ne 23, 3) := by decide +kernel
theorem dX10_emit_7 : decode cX10_emit 7 = .ok (.aload_n 0, 1) := by decide +kernel
theorem dX10_emit_8 : decode cX10_emit 8 = .ok (.getfield 89, 3) := by decide +kernel
theorem dX10_emit_11 : decode cX10_emit 11 = .ok (.aload_n 0, 1) := by decide +kernel
theorem dX10_emit_12 : decode cX10_emit 12 = .ok (.getfield 470, 3) := by decide +kernel
theorem dX10_emit_15 : decode cX10_emit 15 = .ok (.iload_n 1, 1) := by decide +kernel
theorem dX10_emit_16 : decode cX10_emit 16 = .ok (.iastore, 1) := by decide +kernel
theorem dX10_emit_17 : decode cX10_emit 17 = .ok (.aload_n 0, 1) := by decide +kernel
theorem dX10_emit_18 : decode cX10_emit 18 = .ok (.dup, 1) := by decide +kernel
theorem dX10_emit_19 : decode cX10_emit 19 = .ok (.getfield 470, 3) := by decide +kernel
theorem dX10_emit_22 : decode cX10_emit 22 = .ok (.iconst 1, 1) := by decide +kernel
theorem dX10_emit_23 : decode cX10_emit 23 = .ok (.iadd, 1) := by decide +kernel
theorem dX10_emit_24 : decode cX10_emit 24 = .ok (.putfield 470, 3) := by decide +kernel
theorem dX10_emit_27 : decode cX10_emit 27 = .ok (.return_, 1) := by decide +kernel
theorem dX10_enter_0 : decode cX10_enter 0 = .ok (.aload_n 0, 1) := by decide +kernel
theorem dX10_enter_1 : decode cX10_enter 1 = .ok (.aload_n 0, 1) := by decide +kernel
theorem dX10_enter_2 : decode cX10_enter 2 = .ok (.getfield 392, 3) := by decide +kernel
theorem dX10_enter_5 : decode cX10_enter 5 = .ok (.bipush 6, 2) := by decide +kernel
theorem dX10_enter_7 : decode cX10_enter 7 = .ok (.if_icmp .ge 7, 3) := by decide +kernel
theorem dX10_enter_10 : decode cX10_enter 10 = .ok (.iconst 1, 1) := by decide +kernel
theorem dX10_enter_11 : decode cX10_enter 11 = .ok (.goto 4, 3) := by decide +kernel
theorem dX10_enter_14 : decode cX10_enter 14 = .ok (.iconst 0, 1) := by decide +kernel
theorem dX10_enter_15 : decode cX10_enter 15 = .ok (.iconst 3, 1) := by decide +kernel
theorem dX10_enter_16 : decode cX10_enter 16 = .ok (.invokevirtual 415, 3) := by decide +kernel
theorem dX10_enter_19 : decode cX10_enter 19 = .ok (.aload_n 0, 1) := by decide +kernel
theorem dX10_enter_20 : decode cX10_enter 20 = .ok (.dup, 1) := by decide +kernel
theorem dX10_enter_21 : decode cX10_enter 21 = .ok (.getfield 392, 3) := by decide +kernel
theorem dX10_enter_24 : decode cX10_enter 24 = .ok (.iconst 1, 1) := by decide +kernel
theorem dX10_enter_25 : decode cX10_enter 25 = .ok (.iadd, 1) := by decide +kernel
theorem dX10_enter_26 : decode cX10_enter 26 = .ok (.putfield 392, 3) := by decide +kernel
theorem dX10_enter_29 : decode cX10_enter 29 = .ok (.aload_n 0, 1) := by decide +kernel
theorem dX10_enter_30 : decode cX10_enter 30 = .ok (.invokevirtual 419, 3) := by decide +kernel
theorem dX10_enter_33 : decode cX10_enter 33 = .ok (.return_, 1) := by decide +kernel
theorem dX10_compileValue_0 : decode cX10_compileValue 0 = .ok (.aload_n 0, 1) := by decide +kernel
theorem dX10_compileValue_1 : decode cX10_compileValue 1 = .ok (.getfield 389, 3) := by decide +kernel
theorem dX10_compileValue_4 : decode cX10_compileValue 4 = .ok (.ifCond .ne 11, 3) := by decide +kernel
theorem dX10_compileValue_7 : decode cX10_compileValue 7 = .ok (.aload_n 0, 1) := by decide +kernel
theorem dX10_compileValue_8 : decode cX10_compileValue 8 = .ok (.getfield 380, 3) := by decide +kernel
theorem dX10_compileValue_11 : decode cX10_compileValue 11 = .ok (.iconst 2, 1) := by decide +kernel
theorem dX10_compileValue_12 : decode cX10_compileValue 12 = .ok (.if_icmp .ne 16, 3) := by decide +kernel
theorem dX10_compileValue_15 : decode cX10_compileValue 15 = .ok (.aload_n 0, 1) := by decide +kernel
theorem dX10_compileValue_16 : decode cX10_compileValue 16 = .ok (.aload_n 0, 1) := by decide +kernel
theorem dX10_compileValue_17 : decode cX10_compileValue 17 = .ok (.iconst 0, 1) := by decide +kernel
theorem dX10_compileValue_18 : decode cX10_compileValue 18 = .ok (.ldc_w 473, 3) := by decide +kernel
theorem dX10_compileValue_21 : decode cX10_compileValue 21 = .ok (.invokevirtual 441, 3) := by decide +kernel
theorem dX10_compileValue_24 : decode cX10_compileValue 24 = .ok (.invokevirtual 474, 3) := by decide +kernel
theorem dX10_compileValue_27 : decode cX10_compileValue 27 = .ok (.return_, 1) := by decide +kernel
theorem dX10_compileValue_28 : decode cX10_compileValue 28 = .ok (.iconst 0, 1) := by decide +kernel
theorem dX10_compileValue_29 : decode cX10_compileValue 29 = .ok (.istore_n 1, 1) := by decide +kernel
theorem dX10_compileValue_30 : decode cX10_compileValue 30 = .ok (.iload_n 1, 1) := by decide +kernel
theorem dX10_compileValue_31 : decode cX10_compileValue 31 = .ok (.aload_n 0, 1) := by decide +kernel
theorem dX10_compileValue_32 : decode cX10_compileValue 32 = .ok (.getfield 85, 3) := by decide +kernel
theorem dX10_compileValue_35 : decode cX10_compileValue 35 = .ok (.arraylength, 1) := by decide +kernel
theorem dX10_compileValue_36 : decode cX10_compileValue 36 = .ok (.if_icmp .ge 22, 3) := by decide +kernel
theorem dX10_compileValue_39 : decode cX10_compileValue 39 = .ok (.aload_n 0, 1) := by decide +kernel
theorem dX10_compileValue_40 : decode cX10_compileValue 40 = .ok (.aload_n 0, 1) := by decide +kernel
theorem dX10_compileValue_41 : decode cX10_compileValue 41 = .ok (.getfield 85, 3) := by decide +kernel
theorem dX10_compileValue_44 : decode cX10_compileValue 44 = .ok (.iload_n 1, 1) := by decide +kernel
theorem dX10_compileValue_45 : decode cX10_compileValue 45 = .ok (.aaload, 1) := by decide +kernel
theorem dX10_compileValue_46 : decode cX10_compileValue 46 = .ok (.invokevirtual 411, 3) := by decide +kernel
theorem dX10_compileValue_49 : decode cX10_compileValue 49 = .ok (.ifCond .ne 9, 3) := by decide +kernel
theorem dX10_compileValue_52 : decode cX10_compileValue 52 = .ok (.iinc 1 1, 3) := by decide +kernel
theorem dX10_compileValue_55 : decode cX10_compileValue 55 = .ok (.goto (-25), 3) := by decide +kernel
theorem dX10_compileValue_58 : decode cX10_compileValue 58 = .ok (.aload_n 0, 1) := by decide +kernel
theorem dX10_compileValue_59 : decode cX10_compileValue 59 = .ok (.iload_n 1, 1) := by decide +kernel
theorem dX10_compileValue_60 : decode cX10_compileValue 60 = .ok (.aload_n 0, 1) := by decide +kernel
theorem dX10_compileValue_61 : decode cX10_compileValue 61 = .ok (.getfield 85, 3) := by decide +kernel
theorem dX10_compileValue_64 : decode cX10_compileValue 64 = .ok (.arraylength, 1) := by decide +kernel
theorem dX10_compileValue_65 : decode cX10_compileValue 65 = .ok (.if_icmp .ge 7, 3) := by decide +kernel
theorem dX10_compileValue_68 : decode cX10_compileValue 68 = .ok (.iconst 1, 1) := by decide +kernel
theorem dX10_compileValue_69 : decode cX10_compileValue 69 = .ok (.goto 4, 3) := by decide +kernel
theorem dX10_compileValue_72 : decode cX10_compileValue 72 = .ok (.iconst 0, 1) := by decide +kernel
theorem dX10_compileValue_73 : decode cX10_compileValue 73 = .ok (.iconst 1, 1) := by decide +kernel
theorem dX10_compileValue_74 : decode cX10_compileValue 74 = .ok (.invokevirtual 415, 3) := by decide +kernel
theorem dX10_compileValue_77 : decode cX10_compileValue 77 = .ok (.aload_n 0, 1) := by decide +kernel
theorem dX10_compileValue_78 : decode cX10_compileValue 78 = .ok (.iconst (-1), 1) := by decide +kernel
theorem dX10_compileValue_79 : decode cX10_compileValue 79 = .ok (.iload_n 1, 1) := by decide +kernel
theorem dX10_compileValue_80 : decode cX10_compileValue 80 = .ok (.isub, 1) := by decide +kernel
theorem dX10_compileValue_81 : decode cX10_compileValue 81 = .ok (.invokevirtual 474, 3) := by decide +kernel
theorem dX10_compileValue_84 : decode cX10_compileValue 84 = .ok (.aload_n 0, 1) := by decide +kernel
theorem dX10_compileValue_85 : decode cX10_compileValue 85 = .ok (.invokevirtual 419, 3) := by decide +kernel
theorem dX10_compileValue_88 : decode cX10_compileValue 88 = .ok (.return_, 1) := by decide +kernel
theorem dX10_compileFactor_0 : decode cX10_compileFactor 0 = .ok (.aload_n 0, 1) := by decide +kernel
theorem dX10_compileFactor_1 : decode cX10_compileFactor 1 = .ok (.ldc_w 477, 3) := by decide +kernel
theorem dX10_compileFactor_4 : decode cX10_compileFactor 4 = .ok (.invokevirtual 411, 3) := by decide +kernel
theorem dX10_compileFactor_7 : decode cX10_compileFactor 7 = .ok (.ifCond .eq 37, 3) := by decide +kernel
theorem dX10_compileFactor_10 : decode cX10_compileFactor 10 = .ok (.aload_n 0, 1) := by decide +kernel
theorem dX10_compileFactor_11 : decode cX10_compileFactor 11 = .ok (.invokevirtual 479, 3) := by decide +kernel
theorem dX10_compileFactor_14 : decode cX10_compileFactor 14 = .ok (.aload_n 0, 1) := by decide +kernel
theorem dX10_compileFactor_15 : decode cX10_compileFactor 15 = .ok (.getfield 389, 3) := by decide +kernel
theorem dX10_compileFactor_18 : decode cX10_compileFactor 18 = .ok (.ifCond .ne 7, 3) := by decide +kernel
theorem dX10_compileFactor_21 : decode cX10_compileFactor 21 = .ok (.aload_n 0, 1) := by decide +kernel
theorem dX10_compileFactor_22 : decode cX10_compileFactor 22 = .ok (.invokevirtual 482, 3) := by decide +kernel
theorem dX10_compileFactor_25 : decode cX10_compileFactor 25 = .ok (.aload_n 0, 1) := by decide +kernel
theorem dX10_compileFactor_26 : decode cX10_compileFactor 26 = .ok (.bipush (-23), 2) := by decide +kernel
theorem dX10_compileFactor_28 : decode cX10_compileFactor 28 = .ok (.invokevirtual 474, 3) := by decide +kernel
theorem dX10_compileFactor_31 : decode cX10_compileFactor 31 = .ok (.aload_n 0, 1) := by decide +kernel
theorem dX10_compileFactor_32 : decode cX10_compileFactor 32 = .ok (.dup, 1) := by decide +kernel
theorem dX10_compileFactor_33 : decode cX10_compileFactor 33 = .ok (.getfield 392, 3) := by decide +kernel
theorem dX10_compileFactor_36 : decode cX10_compileFactor 36 = .ok (.iconst 1, 1) := by decide +kernel
theorem dX10_compileFactor_37 : decode cX10_compileFactor 37 = .ok (.isub, 1) := by decide +kernel
theorem dX10_compileFactor_38 : decode cX10_compileFactor 38 = .ok (.putfield 392, 3) := by decide +kernel
theorem dX10_compileFactor_41 : decode cX10_compileFactor 41 = .ok (.goto 119, 3) := by decide +kernel
theorem dX10_compileFactor_44 : decode cX10_compileFactor 44 = .ok (.aload_n 0, 1) := by decide +kernel
theorem dX10_compileFactor_45 : decode cX10_compileFactor 45 = .ok (.bipush 40, 2) := by decide +kernel
theorem dX10_compileFactor_47 : decode cX10_compileFactor 47 = .ok (.invokevirtual 422, 3) := by decide +kernel
theorem dX10_compileFactor_50 : decode cX10_compileFactor 50 = .ok (.ifCond .eq 37, 3) := by decide +kernel
theorem dX10_compileFactor_53 : decode cX10_compileFactor 53 = .ok (.aload_n 0, 1) := by decide +kernel
theorem dX10_compileFactor_54 : decode cX10_compileFactor 54 = .ok (.invokevirtual 479, 3) := by decide +kernel
theorem dX10_compileFactor_57 : decode cX10_compileFactor 57 = .ok (.aload_n 0, 1) := by decide +kernel
theorem dX10_compileFactor_58 : decode cX10_compileFactor 58 = .ok (.getfield 389, 3) := by decide +kernel
theorem dX10_compileFactor_61 : decode cX10_compileFactor 61 = .ok (.ifCond .ne 7, 3) := by decide +kernel
theorem dX10_compileFactor_64 : decode cX10_compileFactor 64 = .ok (.aload_n 0, 1) := by decide +kernel
theorem dX10_compileFactor_65 : decode cX10_compileFactor 65 = .ok (.invokevirtual 485, 3) := by decide +kernel
theorem dX10_compileFactor_68 : decode cX10_compileFactor 68 = .ok (.aload_n 0, 1) := by decide +kernel
theorem dX10_compileFactor_69 : decode cX10_compileFactor 69 = .ok (.bipush 41, 2) := by decide +kernel
theorem dX10_compileFactor_71 : decode cX10_compileFactor 71 = .ok (.invokevirtual 458, 3) := by decide +kernel
theorem dX10_compileFactor_74 : decode cX10_compileFactor 74 = .ok (.aload_n 0, 1) := by decide +kernel
theorem dX10_compileFactor_75 : decode cX10_compileFactor 75 = .ok (.dup, 1) := by decide +kernel
theorem dX10_compileFactor_76 : decode cX10_compileFactor 76 = .ok (.getfield 392, 3) := by decide +kernel
theorem dX10_compileFactor_79 : decode cX10_compileFactor 79 = .ok (.iconst 1, 1) := by decide +kernel
theorem dX10_compileFactor_80 : decode cX10_compileFactor 80 = .ok (.isub, 1) := by decide +kernel
theorem dX10_compileFactor_81 : decode cX10_compileFactor 81 = .ok (.putfield 392, 3) := by decide +kernel
theorem dX10_compileFactor_84 : decode cX10_compileFactor 84 = .ok (.goto 76, 3) := by decide +kernel
theorem dX10_compileFactor_87 : decode cX10_compileFactor 87 = .ok (.aload_n 0, 1) := by decide +kernel
theorem dX10_compileFactor_88 : decode cX10_compileFactor 88 = .ok (.invokevirtual 488, 3) := by decide +kernel
theorem dX10_compileFactor_91 : decode cX10_compileFactor 91 = .ok (.aload_n 0, 1) := by decide +kernel
theorem dX10_compileFactor_92 : decode cX10_compileFactor 92 = .ok (.bipush 60, 2) := by decide +kernel
theorem dX10_compileFactor_94 : decode cX10_compileFactor 94 = .ok (.invokevirtual 422, 3) := by decide +kernel
theorem dX10_compileFactor_97 : decode cX10_compileFactor 97 = .ok (.ifCond .eq 8, 3) := by decide +kernel
theorem dX10_compileFactor_100 : decode cX10_compileFactor 100 = .ok (.bipush (-20), 2) := by decide +kernel
