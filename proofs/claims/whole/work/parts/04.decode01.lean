theorem dX6_init_21 : decode cX6_init 21 = .ok (.aload_n 0, 1) := by decide +kernel
theorem dX6_init_22 : decode cX6_init 22 = .ok (.bipush 16, 2) := by decide +kernel
theorem dX6_init_24 : decode cX6_init 24 = .ok (.newarray .int, 2) := by decide +kernel
theorem dX6_init_26 : decode cX6_init 26 = .ok (.putfield 19, 3) := by decide +kernel
theorem dX6_init_29 : decode cX6_init 29 = .ok (.aload_n 0, 1) := by decide +kernel
theorem dX6_init_30 : decode cX6_init 30 = .ok (.aload_n 1, 1) := by decide +kernel
theorem dX6_init_31 : decode cX6_init 31 = .ok (.putfield 22, 3) := by decide +kernel
theorem dX6_init_34 : decode cX6_init 34 = .ok (.return_, 1) := by decide +kernel
theorem dX6_kinshipOf_0 : decode cX6_kinshipOf 0 = .ok (.iload_n 1, 1) := by decide +kernel
theorem dX6_kinshipOf_1 : decode cX6_kinshipOf 1 = .ok (.bipush 16, 2) := by decide +kernel
theorem dX6_kinshipOf_3 : decode cX6_kinshipOf 3 = .ok (.imul, 1) := by decide +kernel
theorem dX6_kinshipOf_4 : decode cX6_kinshipOf 4 = .ok (.iload_n 2, 1) := by decide +kernel
theorem dX6_kinshipOf_5 : decode cX6_kinshipOf 5 = .ok (.iadd, 1) := by decide +kernel
theorem dX6_kinshipOf_6 : decode cX6_kinshipOf 6 = .ok (.istore_n 3, 1) := by decide +kernel
theorem dX6_kinshipOf_7 : decode cX6_kinshipOf 7 = .ok (.iload_n 1, 1) := by decide +kernel
theorem dX6_kinshipOf_8 : decode cX6_kinshipOf 8 = .ok (.ifCond .lt 20, 3) := by decide +kernel
theorem dX6_kinshipOf_11 : decode cX6_kinshipOf 11 = .ok (.iload_n 2, 1) := by decide +kernel
theorem dX6_kinshipOf_12 : decode cX6_kinshipOf 12 = .ok (.ifCond .lt 16, 3) := by decide +kernel
theorem dX6_kinshipOf_15 : decode cX6_kinshipOf 15 = .ok (.iload_n 3, 1) := by decide +kernel
theorem dX6_kinshipOf_16 : decode cX6_kinshipOf 16 = .ok (.ifCond .lt 12, 3) := by decide +kernel
theorem dX6_kinshipOf_19 : decode cX6_kinshipOf 19 = .ok (.iload_n 3, 1) := by decide +kernel
theorem dX6_kinshipOf_20 : decode cX6_kinshipOf 20 = .ok (.aload_n 0, 1) := by decide +kernel
theorem dX6_kinshipOf_21 : decode cX6_kinshipOf 21 = .ok (.getfield 9, 3) := by decide +kernel
theorem dX6_kinshipOf_24 : decode cX6_kinshipOf 24 = .ok (.arraylength, 1) := by decide +kernel
theorem dX6_kinshipOf_25 : decode cX6_kinshipOf 25 = .ok (.if_icmp .lt 7, 3) := by decide +kernel
theorem dX6_kinshipOf_28 : decode cX6_kinshipOf 28 = .ok (.lconst 0, 1) := by decide +kernel
theorem dX6_kinshipOf_29 : decode cX6_kinshipOf 29 = .ok (.goto 9, 3) := by decide +kernel
theorem dX6_kinshipOf_32 : decode cX6_kinshipOf 32 = .ok (.aload_n 0, 1) := by decide +kernel
theorem dX6_kinshipOf_33 : decode cX6_kinshipOf 33 = .ok (.getfield 9, 3) := by decide +kernel
theorem dX6_kinshipOf_36 : decode cX6_kinshipOf 36 = .ok (.iload_n 3, 1) := by decide +kernel
theorem dX6_kinshipOf_37 : decode cX6_kinshipOf 37 = .ok (.laload, 1) := by decide +kernel
theorem dX6_kinshipOf_38 : decode cX6_kinshipOf 38 = .ok (.lreturn, 1) := by decide +kernel
theorem dX6_putKinship_0 : decode cX6_putKinship 0 = .ok (.iload_n 1, 1) := by decide +kernel
theorem dX6_putKinship_1 : decode cX6_putKinship 1 = .ok (.bipush 16, 2) := by decide +kernel
theorem dX6_putKinship_3 : decode cX6_putKinship 3 = .ok (.imul, 1) := by decide +kernel
theorem dX6_putKinship_4 : decode cX6_putKinship 4 = .ok (.iload_n 2, 1) := by decide +kernel
theorem dX6_putKinship_5 : decode cX6_putKinship 5 = .ok (.iadd, 1) := by decide +kernel
theorem dX6_putKinship_6 : decode cX6_putKinship 6 = .ok (.istore 5, 2) := by decide +kernel
theorem dX6_putKinship_8 : decode cX6_putKinship 8 = .ok (.iload_n 1, 1) := by decide +kernel
theorem dX6_putKinship_9 : decode cX6_putKinship 9 = .ok (.ifCond .lt 30, 3) := by decide +kernel
theorem dX6_putKinship_12 : decode cX6_putKinship 12 = .ok (.iload_n 2, 1) := by decide +kernel
theorem dX6_putKinship_13 : decode cX6_putKinship 13 = .ok (.ifCond .lt 26, 3) := by decide +kernel
theorem dX6_putKinship_16 : decode cX6_putKinship 16 = .ok (.iload 5, 2) := by decide +kernel
theorem dX6_putKinship_18 : decode cX6_putKinship 18 = .ok (.ifCond .lt 21, 3) := by decide +kernel
theorem dX6_putKinship_21 : decode cX6_putKinship 21 = .ok (.iload 5, 2) := by decide +kernel
theorem dX6_putKinship_23 : decode cX6_putKinship 23 = .ok (.aload_n 0, 1) := by decide +kernel
theorem dX6_putKinship_24 : decode cX6_putKinship 24 = .ok (.getfield 9, 3) := by decide +kernel
theorem dX6_putKinship_27 : decode cX6_putKinship 27 = .ok (.arraylength, 1) := by decide +kernel
theorem dX6_putKinship_28 : decode cX6_putKinship 28 = .ok (.if_icmp .ge 11, 3) := by decide +kernel
theorem dX6_putKinship_31 : decode cX6_putKinship 31 = .ok (.aload_n 0, 1) := by decide +kernel
theorem dX6_putKinship_32 : decode cX6_putKinship 32 = .ok (.getfield 9, 3) := by decide +kernel
theorem dX6_putKinship_35 : decode cX6_putKinship 35 = .ok (.iload 5, 2) := by decide +kernel
theorem dX6_putKinship_37 : decode cX6_putKinship 37 = .ok (.lload_n 3, 1) := by decide +kernel
theorem dX6_putKinship_38 : decode cX6_putKinship 38 = .ok (.lastore, 1) := by decide +kernel
theorem dX6_putKinship_39 : decode cX6_putKinship 39 = .ok (.return_, 1) := by decide +kernel
theorem dX6_noteKinships_0 : decode cX6_noteKinships 0 = .ok (.iconst 0, 1) := by decide +kernel
theorem dX6_noteKinships_1 : decode cX6_noteKinships 1 = .ok (.istore_n 1, 1) := by decide +kernel
theorem dX6_noteKinships_2 : decode cX6_noteKinships 2 = .ok (.iload_n 1, 1) := by decide +kernel
theorem dX6_noteKinships_3 : decode cX6_noteKinships 3 = .ok (.aload_n 0, 1) := by decide +kernel
theorem dX6_noteKinships_4 : decode cX6_noteKinships 4 = .ok (.getfield 22, 3) := by decide +kernel
theorem dX6_noteKinships_7 : decode cX6_noteKinships 7 = .ok (.getfield 26, 3) := by decide +kernel
theorem dX6_noteKinships_10 : decode cX6_noteKinships 10 = .ok (.if_icmp .ge 49, 3) := by decide +kernel
theorem dX6_noteKinships_13 : decode cX6_noteKinships 13 = .ok (.iconst 0, 1) := by decide +kernel
theorem dX6_noteKinships_14 : decode cX6_noteKinships 14 = .ok (.istore_n 2, 1) := by decide +kernel
theorem dX6_noteKinships_15 : decode cX6_noteKinships 15 = .ok (.iload_n 2, 1) := by decide +kernel
theorem dX6_noteKinships_16 : decode cX6_noteKinships 16 = .ok (.aload_n 0, 1) := by decide +kernel
theorem dX6_noteKinships_17 : decode cX6_noteKinships 17 = .ok (.getfield 22, 3) := by decide +kernel
theorem dX6_noteKinships_20 : decode cX6_noteKinships 20 = .ok (.getfield 32, 3) := by decide +kernel
theorem dX6_noteKinships_23 : decode cX6_noteKinships 23 = .ok (.if_icmp .ge 30, 3) := by decide +kernel
theorem dX6_noteKinships_26 : decode cX6_noteKinships 26 = .ok (.aload_n 0, 1) := by decide +kernel
theorem dX6_noteKinships_27 : decode cX6_noteKinships 27 = .ok (.getfield 22, 3) := by decide +kernel
theorem dX6_noteKinships_30 : decode cX6_noteKinships 30 = .ok (.getfield 35, 3) := by decide +kernel
theorem dX6_noteKinships_33 : decode cX6_noteKinships 33 = .ok (.iload_n 2, 1) := by decide +kernel
theorem dX6_noteKinships_34 : decode cX6_noteKinships 34 = .ok (.invokestatic 38, 3) := by decide +kernel
theorem dX6_noteKinships_37 : decode cX6_noteKinships 37 = .ok (.iload_n 1, 1) := by decide +kernel
theorem dX6_noteKinships_38 : decode cX6_noteKinships 38 = .ok (.if_icmp .ne 9, 3) := by decide +kernel
theorem dX6_noteKinships_41 : decode cX6_noteKinships 41 = .ok (.aload_n 0, 1) := by decide +kernel
theorem dX6_noteKinships_42 : decode cX6_noteKinships 42 = .ok (.iload_n 2, 1) := by decide +kernel
theorem dX6_noteKinships_43 : decode cX6_noteKinships 43 = .ok (.iload_n 1, 1) := by decide +kernel
theorem dX6_noteKinships_44 : decode cX6_noteKinships 44 = .ok (.invokevirtual 42, 3) := by decide +kernel
theorem dX6_noteKinships_47 : decode cX6_noteKinships 47 = .ok (.iinc 2 1, 3) := by decide +kernel
theorem dX6_noteKinships_50 : decode cX6_noteKinships 50 = .ok (.goto (-35), 3) := by decide +kernel
theorem dX6_noteKinships_53 : decode cX6_noteKinships 53 = .ok (.iinc 1 1, 3) := by decide +kernel
theorem dX6_noteKinships_56 : decode cX6_noteKinships 56 = .ok (.goto (-54), 3) := by decide +kernel
theorem dX6_noteKinships_59 : decode cX6_noteKinships 59 = .ok (.return_, 1) := by decide +kernel
theorem dX6_noteKinshipsOf_0 : decode cX6_noteKinshipsOf 0 = .ok (.aload_n 0, 1) := by decide +kernel
theorem dX6_noteKinshipsOf_1 : decode cX6_noteKinshipsOf 1 = .ok (.getfield 22, 3) := by decide +kernel
theorem dX6_noteKinshipsOf_4 : decode cX6_noteKinshipsOf 4 = .ok (.iload_n 1, 1) := by decide +kernel
theorem dX6_noteKinshipsOf_5 : decode cX6_noteKinshipsOf 5 = .ok (.invokevirtual 46, 3) := by decide +kernel
theorem dX6_noteKinshipsOf_8 : decode cX6_noteKinshipsOf 8 = .ok (.istore_n 3, 1) := by decide +kernel
theorem dX6_noteKinshipsOf_9 : decode cX6_noteKinshipsOf 9 = .ok (.aload_n 0, 1) := by decide +kernel
theorem dX6_noteKinshipsOf_10 : decode cX6_noteKinshipsOf 10 = .ok (.getfield 22, 3) := by decide +kernel
theorem dX6_noteKinshipsOf_13 : decode cX6_noteKinshipsOf 13 = .ok (.iload_n 1, 1) := by decide +kernel
theorem dX6_noteKinshipsOf_14 : decode cX6_noteKinshipsOf 14 = .ok (.invokevirtual 50, 3) := by decide +kernel
theorem dX6_noteKinshipsOf_17 : decode cX6_noteKinshipsOf 17 = .ok (.istore 4, 2) := by decide +kernel
theorem dX6_noteKinshipsOf_19 : decode cX6_noteKinshipsOf 19 = .ok (.iconst 0, 1) := by decide +kernel
theorem dX6_noteKinshipsOf_20 : decode cX6_noteKinshipsOf 20 = .ok (.istore 5, 2) := by decide +kernel
theorem dX6_noteKinshipsOf_22 : decode cX6_noteKinshipsOf 22 = .ok (.iload 5, 2) := by decide +kernel
theorem dX6_noteKinshipsOf_24 : decode cX6_noteKinshipsOf 24 = .ok (.aload_n 0, 1) := by decide +kernel
theorem dX6_noteKinshipsOf_25 : decode cX6_noteKinshipsOf 25 = .ok (.getfield 22, 3) := by decide +kernel
theorem dX6_noteKinshipsOf_28 : decode cX6_noteKinshipsOf 28 = .ok (.getfield 32, 3) := by decide +kernel
theorem dX6_noteKinshipsOf_31 : decode cX6_noteKinshipsOf 31 = .ok (.if_icmp .ge 81, 3) := by decide +kernel
theorem dX6_noteKinshipsOf_34 : decode cX6_noteKinshipsOf 34 = .ok (.aload_n 0, 1) := by decide +kernel
theorem dX6_noteKinshipsOf_35 : decode cX6_noteKinshipsOf 35 = .ok (.getfield 22, 3) := by decide +kernel
theorem dX6_noteKinshipsOf_38 : decode cX6_noteKinshipsOf 38 = .ok (.getfield 35, 3) := by decide +kernel
theorem dX6_noteKinshipsOf_41 : decode cX6_noteKinshipsOf 41 = .ok (.iload 5, 2) := by decide +kernel
theorem dX6_noteKinshipsOf_43 : decode cX6_noteKinshipsOf 43 = .ok (.invokestatic 38, 3) := by decide +kernel
theorem dX6_noteKinshipsOf_46 : decode cX6_noteKinshipsOf 46 = .ok (.istore 6, 2) := by decide +kernel
theorem dX6_noteKinshipsOf_48 : decode cX6_noteKinshipsOf 48 = .ok (.iload 6, 2) := by decide +kernel
theorem dX6_noteKinshipsOf_50 : decode cX6_noteKinshipsOf 50 = .ok (.iload_n 2, 1) := by decide +kernel
theorem dX6_noteKinshipsOf_51 : decode cX6_noteKinshipsOf 51 = .ok (.if_icmp .lt 15, 3) := by decide +kernel
theorem dX6_noteKinshipsOf_54 : decode cX6_noteKinshipsOf 54 = .ok (.iload 6, 2) := by decide +kernel
theorem dX6_noteKinshipsOf_56 : decode cX6_noteKinshipsOf 56 = .ok (.iload_n 2, 1) := by decide +kernel
theorem dX6_noteKinshipsOf_57 : decode cX6_noteKinshipsOf 57 = .ok (.if_icmp .ne 49, 3) := by decide +kernel
theorem dX6_noteKinshipsOf_60 : decode cX6_noteKinshipsOf 60 = .ok (.iload 5, 2) := by decide +kernel
theorem dX6_noteKinshipsOf_62 : decode cX6_noteKinshipsOf 62 = .ok (.iload_n 1, 1) := by decide +kernel
theorem dX6_noteKinshipsOf_63 : decode cX6_noteKinshipsOf 63 = .ok (.if_icmp .ge 43, 3) := by decide +kernel
theorem dX6_noteKinshipsOf_66 : decode cX6_noteKinshipsOf 66 = .ok (.aload_n 0, 1) := by decide +kernel
theorem dX6_noteKinshipsOf_67 : decode cX6_noteKinshipsOf 67 = .ok (.iload 5, 2) := by decide +kernel
theorem dX6_noteKinshipsOf_69 : decode cX6_noteKinshipsOf 69 = .ok (.iload_n 3, 1) := by decide +kernel
theorem dX6_noteKinshipsOf_70 : decode cX6_noteKinshipsOf 70 = .ok (.invokevirtual 53, 3) := by decide +kernel
theorem dX6_noteKinshipsOf_73 : decode cX6_noteKinshipsOf 73 = .ok (.aload_n 0, 1) := by decide +kernel
theorem dX6_noteKinshipsOf_74 : decode cX6_noteKinshipsOf 74 = .ok (.iload 5, 2) := by decide +kernel
theorem dX6_noteKinshipsOf_76 : decode cX6_noteKinshipsOf 76 = .ok (.iload 4, 2) := by decide +kernel
theorem dX6_noteKinshipsOf_78 : decode cX6_noteKinshipsOf 78 = .ok (.invokevirtual 53, 3) := by decide +kernel
theorem dX6_noteKinshipsOf_81 : decode cX6_noteKinshipsOf 81 = .ok (.ladd, 1) := by decide +kernel
theorem dX6_noteKinshipsOf_82 : decode cX6_noteKinshipsOf 82 = .ok (.ldc2_w 57, 3) := by decide +kernel
theorem dX6_noteKinshipsOf_85 : decode cX6_noteKinshipsOf 85 = .ok (.ldiv, 1) := by decide +kernel
theorem dX6_noteKinshipsOf_86 : decode cX6_noteKinshipsOf 86 = .ok (.lstore 7, 2) := by decide +kernel
theorem dX6_noteKinshipsOf_88 : decode cX6_noteKinshipsOf 88 = .ok (.aload_n 0, 1) := by decide +kernel
theorem dX6_noteKinshipsOf_89 : decode cX6_noteKinshipsOf 89 = .ok (.iload_n 1, 1) := by decide +kernel
theorem dX6_noteKinshipsOf_90 : decode cX6_noteKinshipsOf 90 = .ok (.iload 5, 2) := by decide +kernel
theorem dX6_noteKinshipsOf_92 : decode cX6_noteKinshipsOf 92 = .ok (.lload 7, 2) := by decide +kernel
theorem dX6_noteKinshipsOf_94 : decode cX6_noteKinshipsOf 94 = .ok (.invokevirtual 59, 3) := by decide +kernel
theorem dX6_noteKinshipsOf_97 : decode cX6_noteKinshipsOf 97 = .ok (.aload_n 0, 1) := by decide +kernel
theorem dX6_noteKinshipsOf_98 : decode cX6_noteKinshipsOf 98 = .ok (.iload 5, 2) := by decide +kernel
theorem dX6_noteKinshipsOf_100 : decode cX6_noteKinshipsOf 100 = .ok (.iload_n 1, 1) := by decide +kernel
theorem dX6_noteKinshipsOf_101 : decode cX6_noteKinshipsOf 101 = .ok (.lload 7, 2) := by decide +kernel
theorem dX6_noteKinshipsOf_103 : decode cX6_noteKinshipsOf 103 = .ok (.invokevirtual 59, 3) := by decide +kernel
theorem dX6_noteKinshipsOf_106 : decode cX6_noteKinshipsOf 106 = .ok (.iinc 5 1, 3) := by decide +kernel
theorem dX6_noteKinshipsOf_109 : decode cX6_noteKinshipsOf 109 = .ok (.goto (-87), 3) := by decide +kernel
theorem dX6_noteKinshipsOf_112 : decode cX6_noteKinshipsOf 112 = .ok (.aload_n 0, 1) := by decide +kernel
theorem dX6_noteKinshipsOf_113 : decode cX6_noteKinshipsOf 113 = .ok (.iload_n 1, 1) := by decide +kernel
theorem dX6_noteKinshipsOf_114 : decode cX6_noteKinshipsOf 114 = .ok (.iload_n 1, 1) := by decide +kernel
theorem dX6_noteKinshipsOf_115 : decode cX6_noteKinshipsOf 115 = .ok (.ldc2_w 63, 3) := by decide +kernel
theorem dX6_noteKinshipsOf_118 : decode cX6_noteKinshipsOf 118 = .ok (.aload_n 0, 1) := by decide +kernel
theorem dX6_noteKinshipsOf_119 : decode cX6_noteKinshipsOf 119 = .ok (.iload_n 3, 1) := by decide +kernel
theorem dX6_noteKinshipsOf_120 : decode cX6_noteKinshipsOf 120 = .ok (.iload 4, 2) := by decide +kernel
theorem dX6_noteKinshipsOf_122 : decode cX6_noteKinshipsOf 122 = .ok (.invokevirtual 53, 3) := by decide +kernel
theorem dX6_noteKinshipsOf_125 : decode cX6_noteKinshipsOf 125 = .ok (.ldc2_w 57, 3) := by decide +kernel
theorem dX6_noteKinshipsOf_128 : decode cX6_noteKinshipsOf 128 = .ok (.ldiv, 1) := by decide +kernel
theorem dX6_noteKinshipsOf_129 : decode cX6_noteKinshipsOf 129 = .ok (.ladd, 1) := by decide +kernel
theorem dX6_noteKinshipsOf_130 : decode cX6_noteKinshipsOf 130 = .ok (.invokevirtual 59, 3) := by decide +kernel
theorem dX6_noteKinshipsOf_133 : decode cX6_noteKinshipsOf 133 = .ok (.return_, 1) := by decide +kernel
theorem dX6_sumOfPartners_0 : decode cX6_sumOfPartners 0 = .ok (.lconst 0, 1) := by decide +kernel
theorem dX6_sumOfPartners_1 : decode cX6_sumOfPartners 1 = .ok (.lstore_n 1, 1) := by decide +kernel
theorem dX6_sumOfPartners_2 : decode cX6_sumOfPartners 2 = .ok (.iconst 0, 1) := by decide +kernel
theorem dX6_sumOfPartners_3 : decode cX6_sumOfPartners 3 = .ok (.istore_n 3, 1) := by decide +kernel
theorem dX6_sumOfPartners_4 : decode cX6_sumOfPartners 4 = .ok (.iload_n 3, 1) := by decide +kernel
theorem dX6_sumOfPartners_5 : decode cX6_sumOfPartners 5 = .ok (.aload_n 0, 1) := by decide +kernel
theorem dX6_sumOfPartners_6 : decode cX6_sumOfPartners 6 = .ok (.getfield 22, 3) := by decide +kernel
theorem dX6_sumOfPartners_9 : decode cX6_sumOfPartners 9 = .ok (.getfield 65, 3) := by decide +kernel
theorem dX6_sumOfPartners_12 : decode cX6_sumOfPartners 12 = .ok (.if_icmp .ge 38, 3) := by decide +kernel
theorem dX6_sumOfPartners_15 : decode cX6_sumOfPartners 15 = .ok (.lload_n 1, 1) := by decide +kernel
theorem dX6_sumOfPartners_16 : decode cX6_sumOfPartners 16 = .ok (.aload_n 0, 1) := by decide +kernel
theorem dX6_sumOfPartners_17 : decode cX6_sumOfPartners 17 = .ok (.aload_n 0, 1) := by decide +kernel
theorem dX6_sumOfPartners_18 : decode cX6_sumOfPartners 18 = .ok (.getfield 22, 3) := by decide +kernel
theorem dX6_sumOfPartners_21 : decode cX6_sumOfPartners 21 = .ok (.getfield 68, 3) := by decide +kernel
theorem dX6_sumOfPartners_24 : decode cX6_sumOfPartners 24 = .ok (.iload_n 3, 1) := by decide +kernel
theorem dX6_sumOfPartners_25 : decode cX6_sumOfPartners 25 = .ok (.invokestatic 38, 3) := by decide +kernel
theorem dX6_sumOfPartners_28 : decode cX6_sumOfPartners 28 = .ok (.aload_n 0, 1) := by decide +kernel
theorem dX6_sumOfPartners_29 : decode cX6_sumOfPartners 29 = .ok (.getfield 22, 3) := by decide +kernel
theorem dX6_sumOfPartners_32 : decode cX6_sumOfPartners 32 = .ok (.getfield 71, 3) := by decide +kernel
theorem dX6_sumOfPartners_35 : decode cX6_sumOfPartners 35 = .ok (.iload_n 3, 1) := by decide +kernel
theorem dX6_sumOfPartners_36 : decode cX6_sumOfPartners 36 = .ok (.invokestatic 38, 3) := by decide +kernel
theorem dX6_sumOfPartners_39 : decode cX6_sumOfPartners 39 = .ok (.invokevirtual 53, 3) := by decide +kernel
theorem dX6_sumOfPartners_42 : decode cX6_sumOfPartners 42 = .ok (.ladd, 1) := by decide +kernel
theorem dX6_sumOfPartners_43 : decode cX6_sumOfPartners 43 = .ok (.lstore_n 1, 1) := by decide +kernel
theorem dX6_sumOfPartners_44 : decode cX6_sumOfPartners 44 = .ok (.iinc 3 1, 3) := by decide +kernel
theorem dX6_sumOfPartners_47 : decode cX6_sumOfPartners 47 = .ok (.goto (-43), 3) := by decide +kernel
theorem dX6_sumOfPartners_50 : decode cX6_sumOfPartners 50 = .ok (.lload_n 1, 1) := by decide +kernel
theorem dX6_sumOfPartners_51 : decode cX6_sumOfPartners 51 = .ok (.lreturn, 1) := by decide +kernel
theorem dX6_stepsBetween_0 : decode cX6_stepsBetween 0 = .ok (.iload_n 1, 1) := by decide +kernel
theorem dX6_stepsBetween_1 : decode cX6_stepsBetween 1 = .ok (.invokestatic 74, 3) := by decide +kernel
theorem dX6_stepsBetween_4 : decode cX6_stepsBetween 4 = .ok (.istore_n 3, 1) := by decide +kernel
theorem dX6_stepsBetween_5 : decode cX6_stepsBetween 5 = .ok (.iconst 0, 1) := by decide +kernel
theorem dX6_stepsBetween_6 : decode cX6_stepsBetween 6 = .ok (.istore 4, 2) := by decide +kernel
theorem dX6_stepsBetween_8 : decode cX6_stepsBetween 8 = .ok (.iload 4, 2) := by decide +kernel
theorem dX6_stepsBetween_10 : decode cX6_stepsBetween 10 = .ok (.bipush 16, 2) := by decide +kernel
theorem dX6_stepsBetween_12 : decode cX6_stepsBetween 12 = .ok (.if_icmp .ge 29, 3) := by decide +kernel
theorem dX6_stepsBetween_15 : decode cX6_stepsBetween 15 = .ok (.iload_n 3, 1) := by decide +kernel
theorem dX6_stepsBetween_16 : decode cX6_stepsBetween 16 = .ok (.iload_n 2, 1) := by decide +kernel
theorem dX6_stepsBetween_17 : decode cX6_stepsBetween 17 = .ok (.invokestatic 74, 3) := by decide +kernel
theorem dX6_stepsBetween_20 : decode cX6_stepsBetween 20 = .ok (.iand, 1) := by decide +kernel
theorem dX6_stepsBetween_21 : decode cX6_stepsBetween 21 = .ok (.ifCond .eq 6, 3) := by decide +kernel
theorem dX6_stepsBetween_24 : decode cX6_stepsBetween 24 = .ok (.iload 4, 2) := by decide +kernel
theorem dX6_stepsBetween_26 : decode cX6_stepsBetween 26 = .ok (.ireturn, 1) := by decide +kernel
theorem dX6_stepsBetween_27 : decode cX6_stepsBetween 27 = .ok (.iload_n 3, 1) := by decide +kernel
theorem dX6_stepsBetween_28 : decode cX6_stepsBetween 28 = .ok (.aload_n 0, 1) := by decide +kernel
theorem dX6_stepsBetween_29 : decode cX6_stepsBetween 29 = .ok (.iload_n 3, 1) := by decide +kernel
theorem dX6_stepsBetween_30 : decode cX6_stepsBetween 30 = .ok (.invokevirtual 77, 3) := by decide +kernel
theorem dX6_stepsBetween_33 : decode cX6_stepsBetween 33 = .ok (.ior, 1) := by decide +kernel
theorem dX6_stepsBetween_34 : decode cX6_stepsBetween 34 = .ok (.istore_n 3, 1) := by decide +kernel
theorem dX6_stepsBetween_35 : decode cX6_stepsBetween 35 = .ok (.iinc 4 1, 3) := by decide +kernel
theorem dX6_stepsBetween_38 : decode cX6_stepsBetween 38 = .ok (.goto (-30), 3) := by decide +kernel
theorem dX6_stepsBetween_41 : decode cX6_stepsBetween 41 = .ok (.iconst (-1), 1) := by decide +kernel
theorem dX6_stepsBetween_42 : decode cX6_stepsBetween 42 = .ok (.ireturn, 1) := by decide +kernel
theorem dX6_neighbours_0 : decode cX6_neighbours 0 = .ok (.iconst 0, 1) := by decide +kernel
theorem dX6_neighbours_1 : decode cX6_neighbours 1 = .ok (.istore_n 2, 1) := by decide +kernel
theorem dX6_neighbours_2 : decode cX6_neighbours 2 = .ok (.iconst 0, 1) := by decide +kernel
theorem dX6_neighbours_3 : decode cX6_neighbours 3 = .ok (.istore_n 3, 1) := by decide +kernel
theorem dX6_neighbours_4 : decode cX6_neighbours 4 = .ok (.iload_n 3, 1) := by decide +kernel
theorem dX6_neighbours_5 : decode cX6_neighbours 5 = .ok (.aload_n 0, 1) := by decide +kernel
theorem dX6_neighbours_6 : decode cX6_neighbours 6 = .ok (.getfield 22, 3) := by decide +kernel
theorem dX6_neighbours_9 : decode cX6_neighbours 9 = .ok (.getfield 32, 3) := by decide +kernel
theorem dX6_neighbours_12 : decode cX6_neighbours 12 = .ok (.if_icmp .ge 62, 3) := by decide +kernel
theorem dX6_neighbours_15 : decode cX6_neighbours 15 = .ok (.aload_n 0, 1) := by decide +kernel
theorem dX6_neighbours_16 : decode cX6_neighbours 16 = .ok (.getfield 22, 3) := by decide +kernel
theorem dX6_neighbours_19 : decode cX6_neighbours 19 = .ok (.iload_n 3, 1) := by decide +kernel
theorem dX6_neighbours_20 : decode cX6_neighbours 20 = .ok (.invokevirtual 46, 3) := by decide +kernel
theorem dX6_neighbours_23 : decode cX6_neighbours 23 = .ok (.invokestatic 74, 3) := by decide +kernel
theorem dX6_neighbours_26 : decode cX6_neighbours 26 = .ok (.aload_n 0, 1) := by decide +kernel
theorem dX6_neighbours_27 : decode cX6_neighbours 27 = .ok (.getfield 22, 3) := by decide +kernel
theorem dX6_neighbours_30 : decode cX6_neighbours 30 = .ok (.iload_n 3, 1) := by decide +kernel
theorem dX6_neighbours_31 : decode cX6_neighbours 31 = .ok (.invokevirtual 50, 3) := by decide +kernel
theorem dX6_neighbours_34 : decode cX6_neighbours 34 = .ok (.invokestatic 74, 3) := by decide +kernel
theorem dX6_neighbours_37 : decode cX6_neighbours 37 = .ok (.ior, 1) := by decide +kernel
theorem dX6_neighbours_38 : decode cX6_neighbours 38 = .ok (.istore 4, 2) := by decide +kernel
theorem dX6_neighbours_40 : decode cX6_neighbours 40 = .ok (.iload_n 1, 1) := by decide +kernel
theorem dX6_neighbours_41 : decode cX6_neighbours 41 = .ok (.iload_n 3, 1) := by decide +kernel
theorem dX6_neighbours_42 : decode cX6_neighbours 42 = .ok (.invokestatic 74, 3) := by decide +kernel
theorem dX6_neighbours_45 : decode cX6_neighbours 45 = .ok (.iand, 1) := by decide +kernel
theorem dX6_neighbours_46 : decode cX6_neighbours 46 = .ok (.ifCond .eq 8, 3) := by decide +kernel
theorem dX6_neighbours_49 : decode cX6_neighbours 49 = .ok (.iload_n 2, 1) := by decide +kernel
theorem dX6_neighbours_50 : decode cX6_neighbours 50 = .ok (.iload 4, 2) := by decide +kernel
theorem dX6_neighbours_52 : decode cX6_neighbours 52 = .ok (.ior, 1) := by decide +kernel
theorem dX6_neighbours_53 : decode cX6_neighbours 53 = .ok (.istore_n 2, 1) := by decide +kernel
theorem dX6_neighbours_54 : decode cX6_neighbours 54 = .ok (.iload_n 1, 1) := by decide +kernel
theorem dX6_neighbours_55 : decode cX6_neighbours 55 = .ok (.iload 4, 2) := by decide +kernel
theorem dX6_neighbours_57 : decode cX6_neighbours 57 = .ok (.iand, 1) := by decide +kernel
theorem dX6_neighbours_58 : decode cX6_neighbours 58 = .ok (.ifCond .eq 10, 3) := by decide +kernel
theorem dX6_neighbours_61 : decode cX6_neighbours 61 = .ok (.iload_n 2, 1) := by decide +kernel
theorem dX6_neighbours_62 : decode cX6_neighbours 62 = .ok (.iload_n 3, 1) := by decide +kernel
theorem dX6_neighbours_63 : decode cX6_neighbours 63 = .ok (.invokestatic 74, 3) := by decide +kernel
theorem dX6_neighbours_66 : decode cX6_neighbours 66 = .ok (.ior, 1) := by decide +kernel
theorem dX6_neighbours_67 : decode cX6_neighbours 67 = .ok (.istore_n 2, 1) := by decide +kernel
theorem dX6_neighbours_68 : decode cX6_neighbours 68 = .ok (.iinc 3 1, 3) := by decide +kernel
theorem dX6_neighbours_71 : decode cX6_neighbours 71 = .ok (.goto (-67), 3) := by decide +kernel
theorem dX6_neighbours_74 : decode cX6_neighbours 74 = .ok (.iload_n 2, 1) := by decide +kernel
theorem dX6_neighbours_75 : decode cX6_neighbours 75 = .ok (.ireturn, 1) := by decide +kernel
theorem dX6_countLines_0 : decode cX6_countLines 0 = .ok (.aload_n 0, 1) := by decide +kernel
theorem dX6_countLines_1 : decode cX6_countLines 1 = .ok (.getfield 15, 3) := by decide +kernel
theorem dX6_countLines_4 : decode cX6_countLines 4 = .ok (.iconst 0, 1) := by decide +kernel
theorem dX6_countLines_5 : decode cX6_countLines 5 = .ok (.invokestatic 80, 3) := by decide +kernel
theorem dX6_countLines_8 : decode cX6_countLines 8 = .ok (.aload_n 0, 1) := by decide +kernel
theorem dX6_countLines_9 : decode cX6_countLines 9 = .ok (.getfield 15, 3) := by decide +kernel
theorem dX6_countLines_12 : decode cX6_countLines 12 = .ok (.iload_n 2, 1) := by decide +kernel
theorem dX6_countLines_13 : decode cX6_countLines 13 = .ok (.iconst 1, 1) := by decide +kernel
theorem dX6_countLines_14 : decode cX6_countLines 14 = .ok (.invokestatic 84, 3) := by decide +kernel
theorem dX6_countLines_17 : decode cX6_countLines 17 = .ok (.iconst 1, 1) := by decide +kernel
theorem dX6_countLines_18 : decode cX6_countLines 18 = .ok (.istore_n 3, 1) := by decide +kernel
theorem dX6_countLines_19 : decode cX6_countLines 19 = .ok (.iload_n 3, 1) := by decide +kernel
theorem dX6_countLines_20 : decode cX6_countLines 20 = .ok (.aload_n 0, 1) := by decide +kernel
theorem dX6_countLines_21 : decode cX6_countLines 21 = .ok (.getfield 22, 3) := by decide +kernel
theorem dX6_countLines_24 : decode cX6_countLines 24 = .ok (.getfield 26, 3) := by decide +kernel
theorem dX6_countLines_27 : decode cX6_countLines 27 = .ok (.if_icmp .ge 94, 3) := by decide +kernel
theorem dX6_countLines_30 : decode cX6_countLines 30 = .ok (.iconst 0, 1) := by decide +kernel
theorem dX6_countLines_31 : decode cX6_countLines 31 = .ok (.istore 4, 2) := by decide +kernel
theorem dX6_countLines_33 : decode cX6_countLines 33 = .ok (.iload 4, 2) := by decide +kernel
theorem dX6_countLines_35 : decode cX6_countLines 35 = .ok (.aload_n 0, 1) := by decide +kernel
theorem dX6_countLines_36 : decode cX6_countLines 36 = .ok (.getfield 22, 3) := by decide +kernel
theorem dX6_countLines_39 : decode cX6_countLines 39 = .ok (.getfield 32, 3) := by decide +kernel
theorem dX6_countLines_42 : decode cX6_countLines 42 = .ok (.if_icmp .ge 73, 3) := by decide +kernel
theorem dX6_countLines_45 : decode cX6_countLines 45 = .ok (.aload_n 0, 1) := by decide +kernel
theorem dX6_countLines_46 : decode cX6_countLines 46 = .ok (.getfield 22, 3) := by decide +kernel
theorem dX6_countLines_49 : decode cX6_countLines 49 = .ok (.getfield 35, 3) := by decide +kernel
theorem dX6_countLines_52 : decode cX6_countLines 52 = .ok (.iload 4, 2) := by decide +kernel
theorem dX6_countLines_54 : decode cX6_countLines 54 = .ok (.invokestatic 38, 3) := by decide +kernel
theorem dX6_countLines_57 : decode cX6_countLines 57 = .ok (.iload_n 3, 1) := by decide +kernel
theorem dX6_countLines_58 : decode cX6_countLines 58 = .ok (.if_icmp .ne 51, 3) := by decide +kernel
theorem dX6_countLines_61 : decode cX6_countLines 61 = .ok (.iload 4, 2) := by decide +kernel
theorem dX6_countLines_63 : decode cX6_countLines 63 = .ok (.iload_n 2, 1) := by decide +kernel
theorem dX6_countLines_64 : decode cX6_countLines 64 = .ok (.if_icmp .eq 45, 3) := by decide +kernel
theorem dX6_countLines_67 : decode cX6_countLines 67 = .ok (.aload_n 0, 1) := by decide +kernel
theorem dX6_countLines_68 : decode cX6_countLines 68 = .ok (.getfield 15, 3) := by decide +kernel
theorem dX6_countLines_71 : decode cX6_countLines 71 = .ok (.iload 4, 2) := by decide +kernel
theorem dX6_countLines_73 : decode cX6_countLines 73 = .ok (.aload_n 0, 1) := by decide +kernel
theorem dX6_countLines_74 : decode cX6_countLines 74 = .ok (.getfield 15, 3) := by decide +kernel
theorem dX6_countLines_77 : decode cX6_countLines 77 = .ok (.aload_n 0, 1) := by decide +kernel
theorem dX6_countLines_78 : decode cX6_countLines 78 = .ok (.getfield 22, 3) := by decide +kernel
theorem dX6_countLines_81 : decode cX6_countLines 81 = .ok (.iload 4, 2) := by decide +kernel
theorem dX6_countLines_83 : decode cX6_countLines 83 = .ok (.invokevirtual 46, 3) := by decide +kernel
theorem dX6_countLines_86 : decode cX6_countLines 86 = .ok (.invokestatic 38, 3) := by decide +kernel
theorem dX6_countLines_89 : decode cX6_countLines 89 = .ok (.aload_n 0, 1) := by decide +kernel
theorem dX6_countLines_90 : decode cX6_countLines 90 = .ok (.getfield 15, 3) := by decide +kernel
theorem dX6_countLines_93 : decode cX6_countLines 93 = .ok (.aload_n 0, 1) := by decide +kernel
theorem dX6_countLines_94 : decode cX6_countLines 94 = .ok (.getfield 22, 3) := by decide +kernel
theorem dX6_countLines_97 : decode cX6_countLines 97 = .ok (.iload 4, 2) := by decide +kernel
theorem dX6_countLines_99 : decode cX6_countLines 99 = .ok (.invokevirtual 50, 3) := by decide +kernel
theorem dX6_countLines_102 : decode cX6_countLines 102 = .ok (.invokestatic 38, 3) := by decide +kernel
theorem dX6_countLines_105 : decode cX6_countLines 105 = .ok (.iadd, 1) := by decide +kernel
theorem dX6_countLines_106 : decode cX6_countLines 106 = .ok (.invokestatic 84, 3) := by decide +kernel
theorem dX6_countLines_109 : decode cX6_countLines 109 = .ok (.iinc 4 1, 3) := by decide +kernel
theorem dX6_countLines_112 : decode cX6_countLines 112 = .ok (.goto (-79), 3) := by decide +kernel
theorem dX6_countLines_115 : decode cX6_countLines 115 = .ok (.iinc 3 1, 3) := by decide +kernel
theorem dX6_countLines_118 : decode cX6_countLines 118 = .ok (.goto (-99), 3) := by decide +kernel
theorem dX6_countLines_121 : decode cX6_countLines 121 = .ok (.aload_n 0, 1) := by decide +kernel
theorem dX6_countLines_122 : decode cX6_countLines 122 = .ok (.getfield 15, 3) := by decide +kernel
theorem dX6_countLines_125 : decode cX6_countLines 125 = .ok (.iload_n 1, 1) := by decide +kernel
theorem dX6_countLines_126 : decode cX6_countLines 126 = .ok (.invokestatic 38, 3) := by decide +kernel
theorem dX6_countLines_129 : decode cX6_countLines 129 = .ok (.ireturn, 1) := by decide +kernel
theorem dX6_nearestCommon_0 : decode cX6_nearestCommon 0 = .ok (.aload_n 0, 1) := by decide +kernel
theorem dX6_nearestCommon_1 : decode cX6_nearestCommon 1 = .ok (.getfield 22, 3) := by decide +kernel
theorem dX6_nearestCommon_4 : decode cX6_nearestCommon 4 = .ok (.iload_n 1, 1) := by decide +kernel
theorem dX6_nearestCommon_5 : decode cX6_nearestCommon 5 = .ok (.invokevirtual 88, 3) := by decide +kernel
theorem dX6_nearestCommon_8 : decode cX6_nearestCommon 8 = .ok (.aload_n 0, 1) := by decide +kernel
theorem dX6_nearestCommon_9 : decode cX6_nearestCommon 9 = .ok (.getfield 22, 3) := by decide +kernel
theorem dX6_nearestCommon_12 : decode cX6_nearestCommon 12 = .ok (.iload_n 2, 1) := by decide +kernel
theorem dX6_nearestCommon_13 : decode cX6_nearestCommon 13 = .ok (.invokevirtual 88, 3) := by decide +kernel
theorem dX6_nearestCommon_16 : decode cX6_nearestCommon 16 = .ok (.iand, 1) := by decide +kernel
theorem dX6_nearestCommon_17 : decode cX6_nearestCommon 17 = .ok (.istore_n 3, 1) := by decide +kernel
theorem dX6_nearestCommon_18 : decode cX6_nearestCommon 18 = .ok (.iconst (-1), 1) := by decide +kernel
theorem dX6_nearestCommon_19 : decode cX6_nearestCommon 19 = .ok (.istore 4, 2) := by decide +kernel
theorem dX6_nearestCommon_21 : decode cX6_nearestCommon 21 = .ok (.iconst 0, 1) := by decide +kernel
theorem dX6_nearestCommon_22 : decode cX6_nearestCommon 22 = .ok (.istore 5, 2) := by decide +kernel
theorem dX6_nearestCommon_24 : decode cX6_nearestCommon 24 = .ok (.iload 5, 2) := by decide +kernel
theorem dX6_nearestCommon_26 : decode cX6_nearestCommon 26 = .ok (.aload_n 0, 1) := by decide +kernel
theorem dX6_nearestCommon_27 : decode cX6_nearestCommon 27 = .ok (.getfield 22, 3) := by decide +kernel
theorem dX6_nearestCommon_30 : decode cX6_nearestCommon 30 = .ok (.getfield 32, 3) := by decide +kernel
theorem dX6_nearestCommon_33 : decode cX6_nearestCommon 33 = .ok (.if_icmp .ge 68, 3) := by decide +kernel
theorem dX6_nearestCommon_36 : decode cX6_nearestCommon 36 = .ok (.iload_n 3, 1) := by decide +kernel
theorem dX6_nearestCommon_37 : decode cX6_nearestCommon 37 = .ok (.iload 5, 2) := by decide +kernel
theorem dX6_nearestCommon_39 : decode cX6_nearestCommon 39 = .ok (.invokestatic 74, 3) := by decide +kernel
theorem dX6_nearestCommon_42 : decode cX6_nearestCommon 42 = .ok (.iand, 1) := by decide +kernel
theorem dX6_nearestCommon_43 : decode cX6_nearestCommon 43 = .ok (.ifCond .eq 7, 3) := by decide +kernel
theorem dX6_nearestCommon_46 : decode cX6_nearestCommon 46 = .ok (.iconst 1, 1) := by decide +kernel
theorem dX6_nearestCommon_47 : decode cX6_nearestCommon 47 = .ok (.goto 4, 3) := by decide +kernel
theorem dX6_nearestCommon_50 : decode cX6_nearestCommon 50 = .ok (.iconst 0, 1) := by decide +kernel
theorem dX6_nearestCommon_51 : decode cX6_nearestCommon 51 = .ok (.istore 6, 2) := by decide +kernel
theorem dX6_nearestCommon_53 : decode cX6_nearestCommon 53 = .ok (.iload 6, 2) := by decide +kernel
theorem dX6_nearestCommon_55 : decode cX6_nearestCommon 55 = .ok (.ifCond .eq 40, 3) := by decide +kernel
theorem dX6_nearestCommon_58 : decode cX6_nearestCommon 58 = .ok (.iload 4, 2) := by decide +kernel
theorem dX6_nearestCommon_60 : decode cX6_nearestCommon 60 = .ok (.iconst (-1), 1) := by decide +kernel
theorem dX6_nearestCommon_61 : decode cX6_nearestCommon 61 = .ok (.if_icmp .eq 30, 3) := by decide +kernel
theorem dX6_nearestCommon_64 : decode cX6_nearestCommon 64 = .ok (.aload_n 0, 1) := by decide +kernel
theorem dX6_nearestCommon_65 : decode cX6_nearestCommon 65 = .ok (.getfield 22, 3) := by decide +kernel
theorem dX6_nearestCommon_68 : decode cX6_nearestCommon 68 = .ok (.getfield 35, 3) := by decide +kernel
theorem dX6_nearestCommon_71 : decode cX6_nearestCommon 71 = .ok (.iload 5, 2) := by decide +kernel
theorem dX6_nearestCommon_73 : decode cX6_nearestCommon 73 = .ok (.invokestatic 38, 3) := by decide +kernel
theorem dX6_nearestCommon_76 : decode cX6_nearestCommon 76 = .ok (.aload_n 0, 1) := by decide +kernel
theorem dX6_nearestCommon_77 : decode cX6_nearestCommon 77 = .ok (.getfield 22, 3) := by decide +kernel
theorem dX6_nearestCommon_80 : decode cX6_nearestCommon 80 = .ok (.getfield 35, 3) := by decide +kernel
theorem dX6_nearestCommon_83 : decode cX6_nearestCommon 83 = .ok (.iload 4, 2) := by decide +kernel
theorem dX6_nearestCommon_85 : decode cX6_nearestCommon 85 = .ok (.invokestatic 38, 3) := by decide +kernel
theorem dX6_nearestCommon_88 : decode cX6_nearestCommon 88 = .ok (.if_icmp .le 7, 3) := by decide +kernel
theorem dX6_nearestCommon_91 : decode cX6_nearestCommon 91 = .ok (.iload 5, 2) := by decide +kernel
theorem dX6_nearestCommon_93 : decode cX6_nearestCommon 93 = .ok (.istore 4, 2) := by decide +kernel
theorem dX6_nearestCommon_95 : decode cX6_nearestCommon 95 = .ok (.iinc 5 1, 3) := by decide +kernel
theorem dX6_nearestCommon_98 : decode cX6_nearestCommon 98 = .ok (.goto (-74), 3) := by decide +kernel
theorem dX6_nearestCommon_101 : decode cX6_nearestCommon 101 = .ok (.iload 4, 2) := by decide +kernel
theorem dX6_nearestCommon_103 : decode cX6_nearestCommon 103 = .ok (.ireturn, 1) := by decide +kernel
theorem dX6_countMissing_0 : decode cX6_countMissing 0 = .ok (.aload_n 0, 1) := by decide +kernel
theorem dX6_countMissing_1 : decode cX6_countMissing 1 = .ok (.getfield 15, 3) := by decide +kernel
theorem dX6_countMissing_4 : decode cX6_countMissing 4 = .ok (.iconst 0, 1) := by decide +kernel
theorem dX6_countMissing_5 : decode cX6_countMissing 5 = .ok (.invokestatic 80, 3) := by decide +kernel
theorem dX6_countMissing_8 : decode cX6_countMissing 8 = .ok (.aload_n 0, 1) := by decide +kernel
theorem dX6_countMissing_9 : decode cX6_countMissing 9 = .ok (.getfield 15, 3) := by decide +kernel
theorem dX6_countMissing_12 : decode cX6_countMissing 12 = .ok (.iload_n 1, 1) := by decide +kernel
theorem dX6_countMissing_13 : decode cX6_countMissing 13 = .ok (.iconst 1, 1) := by decide +kernel
theorem dX6_countMissing_14 : decode cX6_countMissing 14 = .ok (.invokestatic 84, 3) := by decide +kernel
theorem dX6_countMissing_17 : decode cX6_countMissing 17 = .ok (.iconst 0, 1) := by decide +kernel
theorem dX6_countMissing_18 : decode cX6_countMissing 18 = .ok (.istore_n 3, 1) := by decide +kernel
theorem dX6_countMissing_19 : decode cX6_countMissing 19 = .ok (.iload_n 3, 1) := by decide +kernel
theorem dX6_countMissing_20 : decode cX6_countMissing 20 = .ok (.iload_n 2, 1) := by decide +kernel
theorem dX6_countMissing_21 : decode cX6_countMissing 21 = .ok (.if_icmp .ge 13, 3) := by decide +kernel
theorem dX6_countMissing_24 : decode cX6_countMissing 24 = .ok (.aload_n 0, 1) := by decide +kernel
theorem dX6_countMissing_25 : decode cX6_countMissing 25 = .ok (.invokevirtual 91, 3) := by decide +kernel
theorem dX6_countMissing_28 : decode cX6_countMissing 28 = .ok (.iinc 3 1, 3) := by decide +kernel
theorem dX6_countMissing_31 : decode cX6_countMissing 31 = .ok (.goto (-12), 3) := by decide +kernel
theorem dX6_countMissing_34 : decode cX6_countMissing 34 = .ok (.iconst 0, 1) := by decide +kernel
theorem dX6_countMissing_35 : decode cX6_countMissing 35 = .ok (.istore_n 3, 1) := by decide +kernel
theorem dX6_countMissing_36 : decode cX6_countMissing 36 = .ok (.iconst 0, 1) := by decide +kernel
theorem dX6_countMissing_37 : decode cX6_countMissing 37 = .ok (.istore 4, 2) := by decide +kernel
theorem dX6_countMissing_39 : decode cX6_countMissing 39 = .ok (.iload 4, 2) := by decide +kernel
theorem dX6_countMissing_41 : decode cX6_countMissing 41 = .ok (.aload_n 0, 1) := by decide +kernel
theorem dX6_countMissing_42 : decode cX6_countMissing 42 = .ok (.getfield 22, 3) := by decide +kernel
theorem dX6_countMissing_45 : decode cX6_countMissing 45 = .ok (.getfield 32, 3) := by decide +kernel
theorem dX6_countMissing_48 : decode cX6_countMissing 48 = .ok (.if_icmp .ge 36, 3) := by decide +kernel
theorem dX6_countMissing_51 : decode cX6_countMissing 51 = .ok (.aload_n 0, 1) := by decide +kernel
theorem dX6_countMissing_52 : decode cX6_countMissing 52 = .ok (.getfield 15, 3) := by decide +kernel
theorem dX6_countMissing_55 : decode cX6_countMissing 55 = .ok (.iload 4, 2) := by decide +kernel
theorem dX6_countMissing_57 : decode cX6_countMissing 57 = .ok (.invokestatic 38, 3) := by decide +kernel
theorem dX6_countMissing_60 : decode cX6_countMissing 60 = .ok (.istore 5, 2) := by decide +kernel
theorem dX6_countMissing_62 : decode cX6_countMissing 62 = .ok (.iload_n 3, 1) := by decide +kernel
theorem dX6_countMissing_63 : decode cX6_countMissing 63 = .ok (.iload 5, 2) := by decide +kernel
theorem dX6_countMissing_65 : decode cX6_countMissing 65 = .ok (.ifCond .le 10, 3) := by decide +kernel
theorem dX6_countMissing_68 : decode cX6_countMissing 68 = .ok (.iload 5, 2) := by decide +kernel
theorem dX6_countMissing_70 : decode cX6_countMissing 70 = .ok (.iconst 1, 1) := by decide +kernel
theorem dX6_countMissing_71 : decode cX6_countMissing 71 = .ok (.isub, 1) := by decide +kernel
theorem dX6_countMissing_72 : decode cX6_countMissing 72 = .ok (.goto 4, 3) := by decide +kernel
theorem dX6_countMissing_75 : decode cX6_countMissing 75 = .ok (.iconst 0, 1) := by decide +kernel
theorem dX6_countMissing_76 : decode cX6_countMissing 76 = .ok (.iadd, 1) := by decide +kernel
theorem dX6_countMissing_77 : decode cX6_countMissing 77 = .ok (.istore_n 3, 1) := by decide +kernel
theorem dX6_countMissing_78 : decode cX6_countMissing 78 = .ok (.iinc 4 1, 3) := by decide +kernel
theorem dX6_countMissing_81 : decode cX6_countMissing 81 = .ok (.goto (-42), 3) := by decide +kernel
theorem dX6_countMissing_84 : decode cX6_countMissing 84 = .ok (.iload_n 3, 1) := by decide +kernel
theorem dX6_countMissing_85 : decode cX6_countMissing 85 = .ok (.ireturn, 1) := by decide +kernel
theorem dX6_stepToParents_0 : decode cX6_stepToParents 0 = .ok (.aload_n 0, 1) := by decide +kernel
theorem dX6_stepToParents_1 : decode cX6_stepToParents 1 = .ok (.getfield 19, 3) := by decide +kernel
theorem dX6_stepToParents_4 : decode cX6_stepToParents 4 = .ok (.iconst 0, 1) := by decide +kernel
theorem dX6_stepToParents_5 : decode cX6_stepToParents 5 = .ok (.invokestatic 80, 3) := by decide +kernel
theorem dX6_stepToParents_8 : decode cX6_stepToParents 8 = .ok (.iconst 0, 1) := by decide +kernel
theorem dX6_stepToParents_9 : decode cX6_stepToParents 9 = .ok (.istore_n 1, 1) := by decide +kernel
theorem dX6_stepToParents_10 : decode cX6_stepToParents 10 = .ok (.iload_n 1, 1) := by decide +kernel
theorem dX6_stepToParents_11 : decode cX6_stepToParents 11 = .ok (.aload_n 0, 1) := by decide +kernel
theorem dX6_stepToParents_12 : decode cX6_stepToParents 12 = .ok (.getfield 22, 3) := by decide +kernel
theorem dX6_stepToParents_15 : decode cX6_stepToParents 15 = .ok (.getfield 32, 3) := by decide +kernel
theorem dX6_stepToParents_18 : decode cX6_stepToParents 18 = .ok (.if_icmp .ge 60, 3) := by decide +kernel
theorem dX6_stepToParents_21 : decode cX6_stepToParents 21 = .ok (.aload_n 0, 1) := by decide +kernel
theorem dX6_stepToParents_22 : decode cX6_stepToParents 22 = .ok (.getfield 22, 3) := by decide +kernel
theorem dX6_stepToParents_25 : decode cX6_stepToParents 25 = .ok (.iload_n 1, 1) := by decide +kernel
theorem dX6_stepToParents_26 : decode cX6_stepToParents 26 = .ok (.invokevirtual 94, 3) := by decide +kernel
theorem dX6_stepToParents_29 : decode cX6_stepToParents 29 = .ok (.ifCond .eq 43, 3) := by decide +kernel
theorem dX6_stepToParents_32 : decode cX6_stepToParents 32 = .ok (.aload_n 0, 1) := by decide +kernel
theorem dX6_stepToParents_33 : decode cX6_stepToParents 33 = .ok (.aload_n 0, 1) := by decide +kernel
theorem dX6_stepToParents_34 : decode cX6_stepToParents 34 = .ok (.getfield 22, 3) := by decide +kernel
theorem dX6_stepToParents_37 : decode cX6_stepToParents 37 = .ok (.iload_n 1, 1) := by decide +kernel
theorem dX6_stepToParents_38 : decode cX6_stepToParents 38 = .ok (.invokevirtual 46, 3) := by decide +kernel
theorem dX6_stepToParents_41 : decode cX6_stepToParents 41 = .ok (.aload_n 0, 1) := by decide +kernel
theorem dX6_stepToParents_42 : decode cX6_stepToParents 42 = .ok (.getfield 15, 3) := by decide +kernel
theorem dX6_stepToParents_45 : decode cX6_stepToParents 45 = .ok (.iload_n 1, 1) := by decide +kernel
theorem dX6_stepToParents_46 : decode cX6_stepToParents 46 = .ok (.invokestatic 38, 3) := by decide +kernel
theorem dX6_stepToParents_49 : decode cX6_stepToParents 49 = .ok (.invokevirtual 98, 3) := by decide +kernel
theorem dX6_stepToParents_52 : decode cX6_stepToParents 52 = .ok (.aload_n 0, 1) := by decide +kernel
theorem dX6_stepToParents_53 : decode cX6_stepToParents 53 = .ok (.aload_n 0, 1) := by decide +kernel
theorem dX6_stepToParents_54 : decode cX6_stepToParents 54 = .ok (.getfield 22, 3) := by decide +kernel
theorem dX6_stepToParents_57 : decode cX6_stepToParents 57 = .ok (.iload_n 1, 1) := by decide +kernel
theorem dX6_stepToParents_58 : decode cX6_stepToParents 58 = .ok (.invokevirtual 50, 3) := by decide +kernel
theorem dX6_stepToParents_61 : decode cX6_stepToParents 61 = .ok (.aload_n 0, 1) := by decide +kernel
theorem dX6_stepToParents_62 : decode cX6_stepToParents 62 = .ok (.getfield 15, 3) := by decide +kernel
theorem dX6_stepToParents_65 : decode cX6_stepToParents 65 = .ok (.iload_n 1, 1) := by decide +kernel
theorem dX6_stepToParents_66 : decode cX6_stepToParents 66 = .ok (.invokestatic 38, 3) := by decide +kernel
theorem dX6_stepToParents_69 : decode cX6_stepToParents 69 = .ok (.invokevirtual 98, 3) := by decide +kernel
theorem dX6_stepToParents_72 : decode cX6_stepToParents 72 = .ok (.iinc 1 1, 3) := by decide +kernel
theorem dX6_stepToParents_75 : decode cX6_stepToParents 75 = .ok (.goto (-65), 3) := by decide +kernel
theorem dX6_stepToParents_78 : decode cX6_stepToParents 78 = .ok (.aload_n 0, 1) := by decide +kernel
theorem dX6_stepToParents_79 : decode cX6_stepToParents 79 = .ok (.getfield 19, 3) := by decide +kernel
theorem dX6_stepToParents_82 : decode cX6_stepToParents 82 = .ok (.iconst 0, 1) := by decide +kernel
theorem dX6_stepToParents_83 : decode cX6_stepToParents 83 = .ok (.aload_n 0, 1) := by decide +kernel
theorem dX6_stepToParents_84 : decode cX6_stepToParents 84 = .ok (.getfield 15, 3) := by decide +kernel
theorem dX6_stepToParents_87 : decode cX6_stepToParents 87 = .ok (.iconst 0, 1) := by decide +kernel
theorem dX6_stepToParents_88 : decode cX6_stepToParents 88 = .ok (.bipush 16, 2) := by decide +kernel
theorem dX6_stepToParents_90 : decode cX6_stepToParents 90 = .ok (.invokestatic 101, 3) := by decide +kernel
theorem dX6_stepToParents_93 : decode cX6_stepToParents 93 = .ok (.return_, 1) := by decide +kernel
theorem dX6_addWays_0 : decode cX6_addWays 0 = .ok (.aload_n 0, 1) := by decide +kernel
theorem dX6_addWays_1 : decode cX6_addWays 1 = .ok (.getfield 19, 3) := by decide +kernel
theorem dX6_addWays_4 : decode cX6_addWays 4 = .ok (.iload_n 1, 1) := by decide +kernel
theorem dX6_addWays_5 : decode cX6_addWays 5 = .ok (.aload_n 0, 1) := by decide +kernel
theorem dX6_addWays_6 : decode cX6_addWays 6 = .ok (.getfield 19, 3) := by decide +kernel
theorem dX6_addWays_9 : decode cX6_addWays 9 = .ok (.iload_n 1, 1) := by decide +kernel
theorem dX6_addWays_10 : decode cX6_addWays 10 = .ok (.invokestatic 38, 3) := by decide +kernel
theorem dX6_addWays_13 : decode cX6_addWays 13 = .ok (.iload_n 2, 1) := by decide +kernel
theorem dX6_addWays_14 : decode cX6_addWays 14 = .ok (.iadd, 1) := by decide +kernel
theorem dX6_addWays_15 : decode cX6_addWays 15 = .ok (.invokestatic 84, 3) := by decide +kernel
theorem dX6_addWays_18 : decode cX6_addWays 18 = .ok (.return_, 1) := by decide +kernel
theorem dX7_init_0 : decode cX7_init 0 = .ok (.aload_n 0, 1) := by decide +kernel
theorem dX7_init_1 : decode cX7_init 1 = .ok (.invokespecial 3, 3) := by decide +kernel
theorem dX7_init_4 : decode cX7_init 4 = .ok (.aload_n 0, 1) := by decide +kernel
theorem dX7_init_5 : decode cX7_init 5 = .ok (.bipush 28, 2) := by decide +kernel
theorem dX7_init_7 : decode cX7_init 7 = .ok (.newarray .int, 2) := by decide +kernel
theorem dX7_init_9 : decode cX7_init 9 = .ok (.putfield 9, 3) := by decide +kernel
theorem dX7_init_12 : decode cX7_init 12 = .ok (.aload_n 0, 1) := by decide +kernel
theorem dX7_init_13 : decode cX7_init 13 = .ok (.bipush 17, 2) := by decide +kernel
theorem dX7_init_15 : decode cX7_init 15 = .ok (.newarray .int, 2) := by decide +kernel
theorem dX7_init_17 : decode cX7_init 17 = .ok (.putfield 15, 3) := by decide +kernel
theorem dX7_init_20 : decode cX7_init 20 = .ok (.aload_n 0, 1) := by decide +kernel
theorem dX7_init_21 : decode cX7_init 21 = .ok (.bipush 28, 2) := by decide +kernel
theorem dX7_init_23 : decode cX7_init 23 = .ok (.newarray .int, 2) := by decide +kernel
theorem dX7_init_25 : decode cX7_init 25 = .ok (.putfield 18, 3) := by decide +kernel
theorem dX7_init_28 : decode cX7_init 28 = .ok (.aload_n 0, 1) := by decide +kernel
theorem dX7_init_29 : decode cX7_init 29 = .ok (.bipush 12, 2) := by decide +kernel
theorem dX7_init_31 : decode cX7_init 31 = .ok (.newarray .int, 2) := by decide +kernel
theorem dX7_init_33 : decode cX7_init 33 = .ok (.putfield 21, 3) := by decide +kernel
theorem dX7_init_36 : decode cX7_init 36 = .ok (.aload_n 0, 1) := by decide +kernel
theorem dX7_init_37 : decode cX7_init 37 = .ok (.bipush 12, 2) := by decide +kernel
theorem dX7_init_39 : decode cX7_init 39 = .ok (.newarray .int, 2) := by decide +kernel
theorem dX7_init_41 : decode cX7_init 41 = .ok (.putfield 24, 3) := by decide +kernel
theorem dX7_init_44 : decode cX7_init 44 = .ok (.aload_n 0, 1) := by decide +kernel
theorem dX7_init_45 : decode cX7_init 45 = .ok (.bipush 28, 2) := by decide +kernel
theorem dX7_init_47 : decode cX7_init 47 = .ok (.newarray .int, 2) := by decide +kernel
theorem dX7_init_49 : decode cX7_init 49 = .ok (.putfield 27, 3) := by decide +kernel
theorem dX7_init_52 : decode cX7_init 52 = .ok (.aload_n 0, 1) := by decide +kernel
theorem dX7_init_53 : decode cX7_init 53 = .ok (.aload_n 1, 1) := by decide +kernel
theorem dX7_init_54 : decode cX7_init 54 = .ok (.putfield 30, 3) := by decide +kernel
theorem dX7_init_57 : decode cX7_init 57 = .ok (.return_, 1) := by decide +kernel
theorem dX7_layPlain_0 : decode cX7_layPlain 0 = .ok (.aload_n 0, 1) := by decide +kernel
theorem dX7_layPlain_1 : decode cX7_layPlain 1 = .ok (.invokevirtual 34, 3) := by decide +kernel
theorem dX7_layPlain_4 : decode cX7_layPlain 4 = .ok (.iconst 0, 1) := by decide +kernel
theorem dX7_layPlain_5 : decode cX7_layPlain 5 = .ok (.istore_n 1, 1) := by decide +kernel
theorem dX7_layPlain_6 : decode cX7_layPlain 6 = .ok (.iconst 0, 1) := by decide +kernel
theorem dX7_layPlain_7 : decode cX7_layPlain 7 = .ok (.istore_n 2, 1) := by decide +kernel
theorem dX7_layPlain_8 : decode cX7_layPlain 8 = .ok (.iload_n 2, 1) := by decide +kernel
theorem dX7_layPlain_9 : decode cX7_layPlain 9 = .ok (.aload_n 0, 1) := by decide +kernel
theorem dX7_layPlain_10 : decode cX7_layPlain 10 = .ok (.getfield 30, 3) := by decide +kernel
theorem dX7_layPlain_13 : decode cX7_layPlain 13 = .ok (.getfield 37, 3) := by decide +kernel
theorem dX7_layPlain_16 : decode cX7_layPlain 16 = .ok (.if_icmp .ge 25, 3) := by decide +kernel
theorem dX7_layPlain_19 : decode cX7_layPlain 19 = .ok (.aload_n 0, 1) := by decide +kernel
theorem dX7_layPlain_20 : decode cX7_layPlain 20 = .ok (.getfield 15, 3) := by decide +kernel
theorem dX7_layPlain_23 : decode cX7_layPlain 23 = .ok (.iload_n 2, 1) := by decide +kernel
theorem dX7_layPlain_24 : decode cX7_layPlain 24 = .ok (.iload_n 1, 1) := by decide +kernel
theorem dX7_layPlain_25 : decode cX7_layPlain 25 = .ok (.invokestatic 43, 3) := by decide +kernel
theorem dX7_layPlain_28 : decode cX7_layPlain 28 = .ok (.aload_n 0, 1) := by decide +kernel
theorem dX7_layPlain_29 : decode cX7_layPlain 29 = .ok (.iload_n 2, 1) := by decide +kernel
theorem dX7_layPlain_30 : decode cX7_layPlain 30 = .ok (.iload_n 1, 1) := by decide +kernel
theorem dX7_layPlain_31 : decode cX7_layPlain 31 = .ok (.invokevirtual 47, 3) := by decide +kernel
theorem dX7_layPlain_34 : decode cX7_layPlain 34 = .ok (.istore_n 1, 1) := by decide +kernel
theorem dX7_layPlain_35 : decode cX7_layPlain 35 = .ok (.iinc 2 1, 3) := by decide +kernel
theorem dX7_layPlain_38 : decode cX7_layPlain 38 = .ok (.goto (-30), 3) := by decide +kernel
theorem dX7_layPlain_41 : decode cX7_layPlain 41 = .ok (.aload_n 0, 1) := by decide +kernel
theorem dX7_layPlain_42 : decode cX7_layPlain 42 = .ok (.getfield 15, 3) := by decide +kernel
theorem dX7_layPlain_45 : decode cX7_layPlain 45 = .ok (.aload_n 0, 1) := by decide +kernel
theorem dX7_layPlain_46 : decode cX7_layPlain 46 = .ok (.getfield 30, 3) := by decide +kernel
theorem dX7_layPlain_49 : decode cX7_layPlain 49 = .ok (.getfield 37, 3) := by decide +kernel
theorem dX7_layPlain_52 : decode cX7_layPlain 52 = .ok (.iload_n 1, 1) := by decide +kernel
theorem dX7_layPlain_53 : decode cX7_layPlain 53 = .ok (.invokestatic 43, 3) := by decide +kernel
theorem dX7_layPlain_56 : decode cX7_layPlain 56 = .ok (.aload_n 0, 1) := by decide +kernel
theorem dX7_layPlain_57 : decode cX7_layPlain 57 = .ok (.invokevirtual 51, 3) := by decide +kernel
theorem dX7_layPlain_60 : decode cX7_layPlain 60 = .ok (.return_, 1) := by decide +kernel
theorem dX7_noteBoxesOfUnions_0 : decode cX7_noteBoxesOfUnions 0 = .ok (.iconst 0, 1) := by decide +kernel
theorem dX7_noteBoxesOfUnions_1 : decode cX7_noteBoxesOfUnions 1 = .ok (.istore_n 1, 1) := by decide +kernel
theorem dX7_noteBoxesOfUnions_2 : decode cX7_noteBoxesOfUnions 2 = .ok (.iload_n 1, 1) := by decide +kernel
theorem dX7_noteBoxesOfUnions_3 : decode cX7_noteBoxesOfUnions 3 = .ok (.aload_n 0, 1) := by decide +kernel
theorem dX7_noteBoxesOfUnions_4 : decode cX7_noteBoxesOfUnions 4 = .ok (.getfield 30, 3) := by decide +kernel
theorem dX7_noteBoxesOfUnions_7 : decode cX7_noteBoxesOfUnions 7 = .ok (.getfield 54, 3) := by decide +kernel
theorem dX7_noteBoxesOfUnions_10 : decode cX7_noteBoxesOfUnions 10 = .ok (.if_icmp .ge 90, 3) := by decide +kernel
theorem dX7_noteBoxesOfUnions_13 : decode cX7_noteBoxesOfUnions 13 = .ok (.aload_n 0, 1) := by decide +kernel
theorem dX7_noteBoxesOfUnions_14 : decode cX7_noteBoxesOfUnions 14 = .ok (.getfield 30, 3) := by decide +kernel
theorem dX7_noteBoxesOfUnions_17 : decode cX7_noteBoxesOfUnions 17 = .ok (.getfield 57, 3) := by decide +kernel
theorem dX7_noteBoxesOfUnions_20 : decode cX7_noteBoxesOfUnions 20 = .ok (.iload_n 1, 1) := by decide +kernel
theorem dX7_noteBoxesOfUnions_21 : decode cX7_noteBoxesOfUnions 21 = .ok (.invokestatic 60, 3) := by decide +kernel
theorem dX7_noteBoxesOfUnions_24 : decode cX7_noteBoxesOfUnions 24 = .ok (.istore_n 2, 1) := by decide +kernel
theorem dX7_noteBoxesOfUnions_25 : decode cX7_noteBoxesOfUnions 25 = .ok (.aload_n 0, 1) := by decide +kernel
theorem dX7_noteBoxesOfUnions_26 : decode cX7_noteBoxesOfUnions 26 = .ok (.getfield 30, 3) := by decide +kernel
theorem dX7_noteBoxesOfUnions_29 : decode cX7_noteBoxesOfUnions 29 = .ok (.getfield 64, 3) := by decide +kernel
theorem dX7_noteBoxesOfUnions_32 : decode cX7_noteBoxesOfUnions 32 = .ok (.iload_n 1, 1) := by decide +kernel
theorem dX7_noteBoxesOfUnions_33 : decode cX7_noteBoxesOfUnions 33 = .ok (.invokestatic 60, 3) := by decide +kernel
theorem dX7_noteBoxesOfUnions_36 : decode cX7_noteBoxesOfUnions 36 = .ok (.istore_n 3, 1) := by decide +kernel
theorem dX7_noteBoxesOfUnions_37 : decode cX7_noteBoxesOfUnions 37 = .ok (.aload_n 0, 1) := by decide +kernel
theorem dX7_noteBoxesOfUnions_38 : decode cX7_noteBoxesOfUnions 38 = .ok (.getfield 30, 3) := by decide +kernel
theorem dX7_noteBoxesOfUnions_41 : decode cX7_noteBoxesOfUnions 41 = .ok (.getfield 67, 3) := by decide +kernel
theorem dX7_noteBoxesOfUnions_44 : decode cX7_noteBoxesOfUnions 44 = .ok (.iload_n 1, 1) := by decide +kernel
theorem dX7_noteBoxesOfUnions_45 : decode cX7_noteBoxesOfUnions 45 = .ok (.invokestatic 60, 3) := by decide +kernel
theorem dX7_noteBoxesOfUnions_48 : decode cX7_noteBoxesOfUnions 48 = .ok (.istore 4, 2) := by decide +kernel
theorem dX7_noteBoxesOfUnions_50 : decode cX7_noteBoxesOfUnions 50 = .ok (.aload_n 0, 1) := by decide +kernel
theorem dX7_noteBoxesOfUnions_51 : decode cX7_noteBoxesOfUnions 51 = .ok (.getfield 21, 3) := by decide +kernel
theorem dX7_noteBoxesOfUnions_54 : decode cX7_noteBoxesOfUnions 54 = .ok (.iload_n 1, 1) := by decide +kernel
theorem dX7_noteBoxesOfUnions_55 : decode cX7_noteBoxesOfUnions 55 = .ok (.iload_n 3, 1) := by decide +kernel
theorem dX7_noteBoxesOfUnions_56 : decode cX7_noteBoxesOfUnions 56 = .ok (.iload_n 2, 1) := by decide +kernel
theorem dX7_noteBoxesOfUnions_57 : decode cX7_noteBoxesOfUnions 57 = .ok (.if_icmp .ne 10, 3) := by decide +kernel
theorem dX7_noteBoxesOfUnions_60 : decode cX7_noteBoxesOfUnions 60 = .ok (.bipush 16, 2) := by decide +kernel
theorem dX7_noteBoxesOfUnions_62 : decode cX7_noteBoxesOfUnions 62 = .ok (.iload_n 1, 1) := by decide +kernel
theorem dX7_noteBoxesOfUnions_63 : decode cX7_noteBoxesOfUnions 63 = .ok (.iadd, 1) := by decide +kernel
theorem dX7_noteBoxesOfUnions_64 : decode cX7_noteBoxesOfUnions 64 = .ok (.goto 4, 3) := by decide +kernel
theorem dX7_noteBoxesOfUnions_67 : decode cX7_noteBoxesOfUnions 67 = .ok (.iload_n 3, 1) := by decide +kernel
theorem dX7_noteBoxesOfUnions_68 : decode cX7_noteBoxesOfUnions 68 = .ok (.invokestatic 43, 3) := by decide +kernel
theorem dX7_noteBoxesOfUnions_71 : decode cX7_noteBoxesOfUnions 71 = .ok (.aload_n 0, 1) := by decide +kernel
theorem dX7_noteBoxesOfUnions_72 : decode cX7_noteBoxesOfUnions 72 = .ok (.getfield 24, 3) := by decide +kernel
theorem dX7_noteBoxesOfUnions_75 : decode cX7_noteBoxesOfUnions 75 = .ok (.iload_n 1, 1) := by decide +kernel
theorem dX7_noteBoxesOfUnions_76 : decode cX7_noteBoxesOfUnions 76 = .ok (.iload 4, 2) := by decide +kernel
theorem dX7_noteBoxesOfUnions_78 : decode cX7_noteBoxesOfUnions 78 = .ok (.iload_n 2, 1) := by decide +kernel
theorem dX7_noteBoxesOfUnions_79 : decode cX7_noteBoxesOfUnions 79 = .ok (.if_icmp .ne 10, 3) := by decide +kernel
theorem dX7_noteBoxesOfUnions_82 : decode cX7_noteBoxesOfUnions 82 = .ok (.bipush 16, 2) := by decide +kernel
theorem dX7_noteBoxesOfUnions_84 : decode cX7_noteBoxesOfUnions 84 = .ok (.iload_n 1, 1) := by decide +kernel
theorem dX7_noteBoxesOfUnions_85 : decode cX7_noteBoxesOfUnions 85 = .ok (.iadd, 1) := by decide +kernel
theorem dX7_noteBoxesOfUnions_86 : decode cX7_noteBoxesOfUnions 86 = .ok (.goto 5, 3) := by decide +kernel
theorem dX7_noteBoxesOfUnions_89 : decode cX7_noteBoxesOfUnions 89 = .ok (.iload 4, 2) := by decide +kernel
theorem dX7_noteBoxesOfUnions_91 : decode cX7_noteBoxesOfUnions 91 = .ok (.invokestatic 43, 3) := by decide +kernel
theorem dX7_noteBoxesOfUnions_94 : decode cX7_noteBoxesOfUnions 94 = .ok (.iinc 1 1, 3) := by decide +kernel
theorem dX7_noteBoxesOfUnions_97 : decode cX7_noteBoxesOfUnions 97 = .ok (.goto (-95), 3) := by decide +kernel
theorem dX7_noteBoxesOfUnions_100 : decode cX7_noteBoxesOfUnions 100 = .ok (.return_, 1) := by decide +kernel
theorem dX7_layRow_0 : decode cX7_layRow 0 = .ok (.iload_n 2, 1) := by decide +kernel
theorem dX7_layRow_1 : decode cX7_layRow 1 = .ok (.istore_n 3, 1) := by decide +kernel
theorem dX7_layRow_2 : decode cX7_layRow 2 = .ok (.iconst 0, 1) := by decide +kernel
theorem dX7_layRow_3 : decode cX7_layRow 3 = .ok (.istore 4, 2) := by decide +kernel
theorem dX7_layRow_5 : decode cX7_layRow 5 = .ok (.iload 4, 2) := by decide +kernel
theorem dX7_layRow_7 : decode cX7_layRow 7 = .ok (.aload_n 0, 1) := by decide +kernel
theorem dX7_layRow_8 : decode cX7_layRow 8 = .ok (.getfield 30, 3) := by decide +kernel
theorem dX7_layRow_11 : decode cX7_layRow 11 = .ok (.getfield 70, 3) := by decide +kernel
theorem dX7_layRow_14 : decode cX7_layRow 14 = .ok (.if_icmp .ge 38, 3) := by decide +kernel
theorem dX7_layRow_17 : decode cX7_layRow 17 = .ok (.aload_n 0, 1) := by decide +kernel
theorem dX7_layRow_18 : decode cX7_layRow 18 = .ok (.getfield 30, 3) := by decide +kernel
theorem dX7_layRow_21 : decode cX7_layRow 21 = .ok (.getfield 73, 3) := by decide +kernel
theorem dX7_layRow_24 : decode cX7_layRow 24 = .ok (.iload 4, 2) := by decide +kernel
theorem dX7_layRow_26 : decode cX7_layRow 26 = .ok (.invokestatic 60, 3) := by decide +kernel
theorem dX7_layRow_29 : decode cX7_layRow 29 = .ok (.iload_n 1, 1) := by decide +kernel
theorem dX7_layRow_30 : decode cX7_layRow 30 = .ok (.if_icmp .ne 16, 3) := by decide +kernel
theorem dX7_layRow_33 : decode cX7_layRow 33 = .ok (.aload_n 0, 1) := by decide +kernel
theorem dX7_layRow_34 : decode cX7_layRow 34 = .ok (.getfield 9, 3) := by decide +kernel
theorem dX7_layRow_37 : decode cX7_layRow 37 = .ok (.iload_n 3, 1) := by decide +kernel
theorem dX7_layRow_38 : decode cX7_layRow 38 = .ok (.iload 4, 2) := by decide +kernel
theorem dX7_layRow_40 : decode cX7_layRow 40 = .ok (.invokestatic 43, 3) := by decide +kernel
theorem dX7_layRow_43 : decode cX7_layRow 43 = .ok (.iinc 3 1, 3) := by decide +kernel
theorem dX7_layRow_46 : decode cX7_layRow 46 = .ok (.iinc 4 1, 3) := by decide +kernel
theorem dX7_layRow_49 : decode cX7_layRow 49 = .ok (.goto (-44), 3) := by decide +kernel
theorem dX7_layRow_52 : decode cX7_layRow 52 = .ok (.iconst 0, 1) := by decide +kernel
theorem dX7_layRow_53 : decode cX7_layRow 53 = .ok (.istore 4, 2) := by decide +kernel
theorem dX7_layRow_55 : decode cX7_layRow 55 = .ok (.iload 4, 2) := by decide +kernel
theorem dX7_layRow_57 : decode cX7_layRow 57 = .ok (.aload_n 0, 1) := by decide +kernel
theorem dX7_layRow_58 : decode cX7_layRow 58 = .ok (.getfield 30, 3) := by decide +kernel
theorem dX7_layRow_61 : decode cX7_layRow 61 = .ok (.getfield 54, 3) := by decide +kernel
theorem dX7_layRow_64 : decode cX7_layRow 64 = .ok (.if_icmp .ge 57, 3) := by decide +kernel
theorem dX7_layRow_67 : decode cX7_layRow 67 = .ok (.aload_n 0, 1) := by decide +kernel
theorem dX7_layRow_68 : decode cX7_layRow 68 = .ok (.getfield 30, 3) := by decide +kernel
theorem dX7_layRow_71 : decode cX7_layRow 71 = .ok (.getfield 76, 3) := by decide +kernel
theorem dX7_layRow_74 : decode cX7_layRow 74 = .ok (.iload 4, 2) := by decide +kernel
theorem dX7_layRow_76 : decode cX7_layRow 76 = .ok (.invokestatic 60, 3) := by decide +kernel
theorem dX7_layRow_79 : decode cX7_layRow 79 = .ok (.iload_n 1, 1) := by decide +kernel
theorem dX7_layRow_80 : decode cX7_layRow 80 = .ok (.if_icmp .ne 35, 3) := by decide +kernel
theorem dX7_layRow_83 : decode cX7_layRow 83 = .ok (.aload_n 0, 1) := by decide +kernel
theorem dX7_layRow_84 : decode cX7_layRow 84 = .ok (.getfield 30, 3) := by decide +kernel
theorem dX7_layRow_87 : decode cX7_layRow 87 = .ok (.getfield 57, 3) := by decide +kernel
theorem dX7_layRow_90 : decode cX7_layRow 90 = .ok (.iload 4, 2) := by decide +kernel
theorem dX7_layRow_92 : decode cX7_layRow 92 = .ok (.invokestatic 60, 3) := by decide +kernel
theorem dX7_layRow_95 : decode cX7_layRow 95 = .ok (.iconst (-1), 1) := by decide +kernel
theorem dX7_layRow_96 : decode cX7_layRow 96 = .ok (.if_icmp .eq 19, 3) := by decide +kernel
theorem dX7_layRow_99 : decode cX7_layRow 99 = .ok (.aload_n 0, 1) := by decide +kernel
theorem dX7_layRow_100 : decode cX7_layRow 100 = .ok (.getfield 9, 3) := by decide +kernel
theorem dX7_layRow_103 : decode cX7_layRow 103 = .ok (.iload_n 3, 1) := by decide +kernel
theorem dX7_layRow_104 : decode cX7_layRow 104 = .ok (.bipush 16, 2) := by decide +kernel
theorem dX7_layRow_106 : decode cX7_layRow 106 = .ok (.iload 4, 2) := by decide +kernel
theorem dX7_layRow_108 : decode cX7_layRow 108 = .ok (.iadd, 1) := by decide +kernel
theorem dX7_layRow_109 : decode cX7_layRow 109 = .ok (.invokestatic 43, 3) := by decide +kernel
theorem dX7_layRow_112 : decode cX7_layRow 112 = .ok (.iinc 3 1, 3) := by decide +kernel
theorem dX7_layRow_115 : decode cX7_layRow 115 = .ok (.iinc 4 1, 3) := by decide +kernel
theorem dX7_layRow_118 : decode cX7_layRow 118 = .ok (.goto (-63), 3) := by decide +kernel
theorem dX7_layRow_121 : decode cX7_layRow 121 = .ok (.iload_n 3, 1) := by decide +kernel
theorem dX7_layRow_122 : decode cX7_layRow 122 = .ok (.ireturn, 1) := by decide +kernel
theorem dX7_notePlaces_0 : decode cX7_notePlaces 0 = .ok (.iconst 0, 1) := by decide +kernel
theorem dX7_notePlaces_1 : decode cX7_notePlaces 1 = .ok (.istore_n 1, 1) := by decide +kernel
theorem dX7_notePlaces_2 : decode cX7_notePlaces 2 = .ok (.iload_n 1, 1) := by decide +kernel
theorem dX7_notePlaces_3 : decode cX7_notePlaces 3 = .ok (.aload_n 0, 1) := by decide +kernel
theorem dX7_notePlaces_4 : decode cX7_notePlaces 4 = .ok (.getfield 30, 3) := by decide +kernel
theorem dX7_notePlaces_7 : decode cX7_notePlaces 7 = .ok (.getfield 37, 3) := by decide +kernel
theorem dX7_notePlaces_10 : decode cX7_notePlaces 10 = .ok (.if_icmp .ge 40, 3) := by decide +kernel
theorem dX7_notePlaces_13 : decode cX7_notePlaces 13 = .ok (.iconst 0, 1) := by decide +kernel
theorem dX7_notePlaces_14 : decode cX7_notePlaces 14 = .ok (.istore_n 2, 1) := by decide +kernel
theorem dX7_notePlaces_15 : decode cX7_notePlaces 15 = .ok (.iload_n 2, 1) := by decide +kernel
theorem dX7_notePlaces_16 : decode cX7_notePlaces 16 = .ok (.aload_n 0, 1) := by decide +kernel
theorem dX7_notePlaces_17 : decode cX7_notePlaces 17 = .ok (.iload_n 1, 1) := by decide +kernel
theorem dX7_notePlaces_18 : decode cX7_notePlaces 18 = .ok (.invokevirtual 79, 3) := by decide +kernel
theorem dX7_notePlaces_21 : decode cX7_notePlaces 21 = .ok (.if_icmp .ge 23, 3) := by decide +kernel
theorem dX7_notePlaces_24 : decode cX7_notePlaces 24 = .ok (.aload_n 0, 1) := by decide +kernel
theorem dX7_notePlaces_25 : decode cX7_notePlaces 25 = .ok (.getfield 18, 3) := by decide +kernel
theorem dX7_notePlaces_28 : decode cX7_notePlaces 28 = .ok (.aload_n 0, 1) := by decide +kernel
theorem dX7_notePlaces_29 : decode cX7_notePlaces 29 = .ok (.iload_n 1, 1) := by decide +kernel
theorem dX7_notePlaces_30 : decode cX7_notePlaces 30 = .ok (.iload_n 2, 1) := by decide +kernel
theorem dX7_notePlaces_31 : decode cX7_notePlaces 31 = .ok (.invokevirtual 83, 3) := by decide +kernel
theorem dX7_notePlaces_34 : decode cX7_notePlaces 34 = .ok (.iload_n 2, 1) := by decide +kernel
theorem dX7_notePlaces_35 : decode cX7_notePlaces 35 = .ok (.invokestatic 43, 3) := by decide +kernel
theorem dX7_notePlaces_38 : decode cX7_notePlaces 38 = .ok (.iinc 2 1, 3) := by decide +kernel
theorem dX7_notePlaces_41 : decode cX7_notePlaces 41 = .ok (.goto (-26), 3) := by decide +kernel
theorem dX7_notePlaces_44 : decode cX7_notePlaces 44 = .ok (.iinc 1 1, 3) := by decide +kernel
theorem dX7_notePlaces_47 : decode cX7_notePlaces 47 = .ok (.goto (-45), 3) := by decide +kernel
theorem dX7_notePlaces_50 : decode cX7_notePlaces 50 = .ok (.return_, 1) := by decide +kernel
theorem dX7_saveOrder_0 : decode cX7_saveOrder 0 = .ok (.aload_n 0, 1) := by decide +kernel
theorem dX7_saveOrder_1 : decode cX7_saveOrder 1 = .ok (.getfield 9, 3) := by decide +kernel
theorem dX7_saveOrder_4 : decode cX7_saveOrder 4 = .ok (.iconst 0, 1) := by decide +kernel
theorem dX7_saveOrder_5 : decode cX7_saveOrder 5 = .ok (.aload_n 1, 1) := by decide +kernel
theorem dX7_saveOrder_6 : decode cX7_saveOrder 6 = .ok (.iload_n 2, 1) := by decide +kernel
theorem dX7_saveOrder_7 : decode cX7_saveOrder 7 = .ok (.bipush 28, 2) := by decide +kernel
theorem dX7_saveOrder_9 : decode cX7_saveOrder 9 = .ok (.invokestatic 86, 3) := by decide +kernel
theorem dX7_saveOrder_12 : decode cX7_saveOrder 12 = .ok (.return_, 1) := by decide +kernel
theorem dX7_bringOrder_0 : decode cX7_bringOrder 0 = .ok (.aload_n 0, 1) := by decide +kernel
theorem dX7_bringOrder_1 : decode cX7_bringOrder 1 = .ok (.invokevirtual 90, 3) := by decide +kernel
theorem dX7_bringOrder_4 : decode cX7_bringOrder 4 = .ok (.aload_n 1, 1) := by decide +kernel
theorem dX7_bringOrder_5 : decode cX7_bringOrder 5 = .ok (.iload_n 2, 1) := by decide +kernel
theorem dX7_bringOrder_6 : decode cX7_bringOrder 6 = .ok (.aload_n 0, 1) := by decide +kernel
theorem dX7_bringOrder_7 : decode cX7_bringOrder 7 = .ok (.getfield 9, 3) := by decide +kernel
theorem dX7_bringOrder_10 : decode cX7_bringOrder 10 = .ok (.iconst 0, 1) := by decide +kernel
theorem dX7_bringOrder_11 : decode cX7_bringOrder 11 = .ok (.bipush 28, 2) := by decide +kernel
theorem dX7_bringOrder_13 : decode cX7_bringOrder 13 = .ok (.invokestatic 86, 3) := by decide +kernel
theorem dX7_bringOrder_16 : decode cX7_bringOrder 16 = .ok (.aload_n 0, 1) := by decide +kernel
theorem dX7_bringOrder_17 : decode cX7_bringOrder 17 = .ok (.invokevirtual 51, 3) := by decide +kernel
theorem dX7_bringOrder_20 : decode cX7_bringOrder 20 = .ok (.return_, 1) := by decide +kernel
theorem dX7_boxCount_0 : decode cX7_boxCount 0 = .ok (.aload_n 0, 1) := by decide +kernel
theorem dX7_boxCount_1 : decode cX7_boxCount 1 = .ok (.getfield 15, 3) := by decide +kernel
theorem dX7_boxCount_4 : decode cX7_boxCount 4 = .ok (.aload_n 0, 1) := by decide +kernel
theorem dX7_boxCount_5 : decode cX7_boxCount 5 = .ok (.getfield 30, 3) := by decide +kernel
theorem dX7_boxCount_8 : decode cX7_boxCount 8 = .ok (.getfield 37, 3) := by decide +kernel
theorem dX7_boxCount_11 : decode cX7_boxCount 11 = .ok (.invokestatic 60, 3) := by decide +kernel
theorem dX7_boxCount_14 : decode cX7_boxCount 14 = .ok (.ireturn, 1) := by decide +kernel
theorem dX7_boxCountOf_0 : decode cX7_boxCountOf 0 = .ok (.aload_n 0, 1) := by decide +kernel
theorem dX7_boxCountOf_1 : decode cX7_boxCountOf 1 = .ok (.getfield 15, 3) := by decide +kernel
theorem dX7_boxCountOf_4 : decode cX7_boxCountOf 4 = .ok (.iload_n 1, 1) := by decide +kernel
theorem dX7_boxCountOf_5 : decode cX7_boxCountOf 5 = .ok (.iconst 1, 1) := by decide +kernel
theorem dX7_boxCountOf_6 : decode cX7_boxCountOf 6 = .ok (.iadd, 1) := by decide +kernel
theorem dX7_boxCountOf_7 : decode cX7_boxCountOf 7 = .ok (.invokestatic 60, 3) := by decide +kernel
theorem dX7_boxCountOf_10 : decode cX7_boxCountOf 10 = .ok (.aload_n 0, 1) := by decide +kernel
theorem dX7_boxCountOf_11 : decode cX7_boxCountOf 11 = .ok (.getfield 15, 3) := by decide +kernel
theorem dX7_boxCountOf_14 : decode cX7_boxCountOf 14 = .ok (.iload_n 1, 1) := by decide +kernel
theorem dX7_boxCountOf_15 : decode cX7_boxCountOf 15 = .ok (.invokestatic 60, 3) := by decide +kernel
theorem dX7_boxCountOf_18 : decode cX7_boxCountOf 18 = .ok (.isub, 1) := by decide +kernel
theorem dX7_boxCountOf_19 : decode cX7_boxCountOf 19 = .ok (.ireturn, 1) := by decide +kernel
theorem dX7_boxAt_0 : decode cX7_boxAt 0 = .ok (.aload_n 0, 1) := by decide +kernel
theorem dX7_boxAt_1 : decode cX7_boxAt 1 = .ok (.getfield 9, 3) := by decide +kernel
theorem dX7_boxAt_4 : decode cX7_boxAt 4 = .ok (.aload_n 0, 1) := by decide +kernel
theorem dX7_boxAt_5 : decode cX7_boxAt 5 = .ok (.getfield 15, 3) := by decide +kernel
theorem dX7_boxAt_8 : decode cX7_boxAt 8 = .ok (.iload_n 1, 1) := by decide +kernel
theorem dX7_boxAt_9 : decode cX7_boxAt 9 = .ok (.invokestatic 60, 3) := by decide +kernel
theorem dX7_boxAt_12 : decode cX7_boxAt 12 = .ok (.iload_n 2, 1) := by decide +kernel
theorem dX7_boxAt_13 : decode cX7_boxAt 13 = .ok (.iadd, 1) := by decide +kernel
theorem dX7_boxAt_14 : decode cX7_boxAt 14 = .ok (.invokestatic 60, 3) := by decide +kernel
theorem dX7_boxAt_17 : decode cX7_boxAt 17 = .ok (.ireturn, 1) := by decide +kernel
theorem dX7_personOf_0 : decode cX7_personOf 0 = .ok (.iload_n 1, 1) := by decide +kernel
theorem dX7_personOf_1 : decode cX7_personOf 1 = .ok (.bipush 16, 2) := by decide +kernel
theorem dX7_personOf_3 : decode cX7_personOf 3 = .ok (.if_icmp .ge 7, 3) := by decide +kernel
theorem dX7_personOf_6 : decode cX7_personOf 6 = .ok (.iload_n 1, 1) := by decide +kernel
theorem dX7_personOf_7 : decode cX7_personOf 7 = .ok (.goto 17, 3) := by decide +kernel
theorem dX7_personOf_10 : decode cX7_personOf 10 = .ok (.aload_n 0, 1) := by decide +kernel
theorem dX7_personOf_11 : decode cX7_personOf 11 = .ok (.getfield 30, 3) := by decide +kernel
theorem dX7_personOf_14 : decode cX7_personOf 14 = .ok (.getfield 57, 3) := by decide +kernel
theorem dX7_personOf_17 : decode cX7_personOf 17 = .ok (.iload_n 1, 1) := by decide +kernel
theorem dX7_personOf_18 : decode cX7_personOf 18 = .ok (.invokestatic 93, 3) := by decide +kernel
theorem dX7_personOf_21 : decode cX7_personOf 21 = .ok (.invokestatic 60, 3) := by decide +kernel
theorem dX7_personOf_24 : decode cX7_personOf 24 = .ok (.ireturn, 1) := by decide +kernel
theorem dX7_middleOf_0 : decode cX7_middleOf 0 = .ok (.aload_n 0, 1) := by decide +kernel
theorem dX7_middleOf_1 : decode cX7_middleOf 1 = .ok (.getfield 18, 3) := by decide +kernel
theorem dX7_middleOf_4 : decode cX7_middleOf 4 = .ok (.aload_n 0, 1) := by decide +kernel
theorem dX7_middleOf_5 : decode cX7_middleOf 5 = .ok (.getfield 21, 3) := by decide +kernel
theorem dX7_middleOf_8 : decode cX7_middleOf 8 = .ok (.iload_n 1, 1) := by decide +kernel
theorem dX7_middleOf_9 : decode cX7_middleOf 9 = .ok (.invokestatic 60, 3) := by decide +kernel
theorem dX7_middleOf_12 : decode cX7_middleOf 12 = .ok (.invokestatic 60, 3) := by decide +kernel
theorem dX7_middleOf_15 : decode cX7_middleOf 15 = .ok (.aload_n 0, 1) := by decide +kernel
theorem dX7_middleOf_16 : decode cX7_middleOf 16 = .ok (.getfield 18, 3) := by decide +kernel
theorem dX7_middleOf_19 : decode cX7_middleOf 19 = .ok (.aload_n 0, 1) := by decide +kernel
theorem dX7_middleOf_20 : decode cX7_middleOf 20 = .ok (.getfield 24, 3) := by decide +kernel
theorem dX7_middleOf_23 : decode cX7_middleOf 23 = .ok (.iload_n 1, 1) := by decide +kernel
theorem dX7_middleOf_24 : decode cX7_middleOf 24 = .ok (.invokestatic 60, 3) := by decide +kernel
theorem dX7_middleOf_27 : decode cX7_middleOf 27 = .ok (.invokestatic 60, 3) := by decide +kernel
theorem dX7_middleOf_30 : decode cX7_middleOf 30 = .ok (.iadd, 1) := by decide +kernel
theorem dX7_middleOf_31 : decode cX7_middleOf 31 = .ok (.ireturn, 1) := by decide +kernel
theorem dX7_exchange_0 : decode cX7_exchange 0 = .ok (.aload_n 0, 1) := by decide +kernel
theorem dX7_exchange_1 : decode cX7_exchange 1 = .ok (.iload_n 1, 1) := by decide +kernel
theorem dX7_exchange_2 : decode cX7_exchange 2 = .ok (.iload_n 2, 1) := by decide +kernel
theorem dX7_exchange_3 : decode cX7_exchange 3 = .ok (.invokevirtual 83, 3) := by decide +kernel
theorem dX7_exchange_6 : decode cX7_exchange 6 = .ok (.istore 4, 2) := by decide +kernel
theorem dX7_exchange_8 : decode cX7_exchange 8 = .ok (.aload_n 0, 1) := by decide +kernel
theorem dX7_exchange_9 : decode cX7_exchange 9 = .ok (.iload_n 1, 1) := by decide +kernel
theorem dX7_exchange_10 : decode cX7_exchange 10 = .ok (.iload_n 3, 1) := by decide +kernel
theorem dX7_exchange_11 : decode cX7_exchange 11 = .ok (.invokevirtual 83, 3) := by decide +kernel
theorem dX7_exchange_14 : decode cX7_exchange 14 = .ok (.istore 5, 2) := by decide +kernel
theorem dX7_exchange_16 : decode cX7_exchange 16 = .ok (.aload_n 0, 1) := by decide +kernel
theorem dX7_exchange_17 : decode cX7_exchange 17 = .ok (.getfield 9, 3) := by decide +kernel
theorem dX7_exchange_20 : decode cX7_exchange 20 = .ok (.aload_n 0, 1) := by decide +kernel
theorem dX7_exchange_21 : decode cX7_exchange 21 = .ok (.getfield 15, 3) := by decide +kernel
theorem dX7_exchange_24 : decode cX7_exchange 24 = .ok (.iload_n 1, 1) := by decide +kernel
theorem dX7_exchange_25 : decode cX7_exchange 25 = .ok (.invokestatic 60, 3) := by decide +kernel
theorem dX7_exchange_28 : decode cX7_exchange 28 = .ok (.iload_n 2, 1) := by decide +kernel
theorem dX7_exchange_29 : decode cX7_exchange 29 = .ok (.iadd, 1) := by decide +kernel
theorem dX7_exchange_30 : decode cX7_exchange 30 = .ok (.iload 5, 2) := by decide +kernel
theorem dX7_exchange_32 : decode cX7_exchange 32 = .ok (.invokestatic 43, 3) := by decide +kernel
theorem dX7_exchange_35 : decode cX7_exchange 35 = .ok (.aload_n 0, 1) := by decide +kernel
theorem dX7_exchange_36 : decode cX7_exchange 36 = .ok (.getfield 9, 3) := by decide +kernel
theorem dX7_exchange_39 : decode cX7_exchange 39 = .ok (.aload_n 0, 1) := by decide +kernel
theorem dX7_exchange_40 : decode cX7_exchange 40 = .ok (.getfield 15, 3) := by decide +kernel
theorem dX7_exchange_43 : decode cX7_exchange 43 = .ok (.iload_n 1, 1) := by decide +kernel
theorem dX7_exchange_44 : decode cX7_exchange 44 = .ok (.invokestatic 60, 3) := by decide +kernel
theorem dX7_exchange_47 : decode cX7_exchange 47 = .ok (.iload_n 3, 1) := by decide +kernel
theorem dX7_exchange_48 : decode cX7_exchange 48 = .ok (.iadd, 1) := by decide +kernel
theorem dX7_exchange_49 : decode cX7_exchange 49 = .ok (.iload 4, 2) := by decide +kernel
theorem dX7_exchange_51 : decode cX7_exchange 51 = .ok (.invokestatic 43, 3) := by decide +kernel
theorem dX7_exchange_54 : decode cX7_exchange 54 = .ok (.aload_n 0, 1) := by decide +kernel
theorem dX7_exchange_55 : decode cX7_exchange 55 = .ok (.getfield 18, 3) := by decide +kernel
theorem dX7_exchange_58 : decode cX7_exchange 58 = .ok (.iload 5, 2) := by decide +kernel
theorem dX7_exchange_60 : decode cX7_exchange 60 = .ok (.iload_n 2, 1) := by decide +kernel
theorem dX7_exchange_61 : decode cX7_exchange 61 = .ok (.invokestatic 43, 3) := by decide +kernel
theorem dX7_exchange_64 : decode cX7_exchange 64 = .ok (.aload_n 0, 1) := by decide +kernel
theorem dX7_exchange_65 : decode cX7_exchange 65 = .ok (.getfield 18, 3) := by decide +kernel
theorem dX7_exchange_68 : decode cX7_exchange 68 = .ok (.iload 4, 2) := by decide +kernel
theorem dX7_exchange_70 : decode cX7_exchange 70 = .ok (.iload_n 3, 1) := by decide +kernel
theorem dX7_exchange_71 : decode cX7_exchange 71 = .ok (.invokestatic 43, 3) := by decide +kernel
theorem dX7_exchange_74 : decode cX7_exchange 74 = .ok (.return_, 1) := by decide +kernel
theorem dX7_countAllCrossings_0 : decode cX7_countAllCrossings 0 = .ok (.iconst 0, 1) := by decide +kernel
theorem dX7_countAllCrossings_1 : decode cX7_countAllCrossings 1 = .ok (.istore_n 1, 1) := by decide +kernel
theorem dX7_countAllCrossings_2 : decode cX7_countAllCrossings 2 = .ok (.iconst 0, 1) := by decide +kernel
theorem dX7_countAllCrossings_3 : decode cX7_countAllCrossings 3 = .ok (.istore_n 2, 1) := by decide +kernel
theorem dX7_countAllCrossings_4 : decode cX7_countAllCrossings 4 = .ok (.iload_n 2, 1) := by decide +kernel
theorem dX7_countAllCrossings_5 : decode cX7_countAllCrossings 5 = .ok (.aload_n 0, 1) := by decide +kernel
theorem dX7_countAllCrossings_6 : decode cX7_countAllCrossings 6 = .ok (.getfield 30, 3) := by decide +kernel
theorem dX7_countAllCrossings_9 : decode cX7_countAllCrossings 9 = .ok (.getfield 37, 3) := by decide +kernel
theorem dX7_countAllCrossings_12 : decode cX7_countAllCrossings 12 = .ok (.if_icmp .ge 23, 3) := by decide +kernel
theorem dX7_countAllCrossings_15 : decode cX7_countAllCrossings 15 = .ok (.iload_n 1, 1) := by decide +kernel
theorem dX7_countAllCrossings_16 : decode cX7_countAllCrossings 16 = .ok (.aload_n 0, 1) := by decide +kernel
theorem dX7_countAllCrossings_17 : decode cX7_countAllCrossings 17 = .ok (.iload_n 2, 1) := by decide +kernel
theorem dX7_countAllCrossings_18 : decode cX7_countAllCrossings 18 = .ok (.invokevirtual 96, 3) := by decide +kernel
theorem dX7_countAllCrossings_21 : decode cX7_countAllCrossings 21 = .ok (.aload_n 0, 1) := by decide +kernel
theorem dX7_countAllCrossings_22 : decode cX7_countAllCrossings 22 = .ok (.iload_n 2, 1) := by decide +kernel
theorem dX7_countAllCrossings_23 : decode cX7_countAllCrossings 23 = .ok (.invokevirtual 99, 3) := by decide +kernel
theorem dX7_countAllCrossings_26 : decode cX7_countAllCrossings 26 = .ok (.iadd, 1) := by decide +kernel
theorem dX7_countAllCrossings_27 : decode cX7_countAllCrossings 27 = .ok (.iadd, 1) := by decide +kernel
theorem dX7_countAllCrossings_28 : decode cX7_countAllCrossings 28 = .ok (.istore_n 1, 1) := by decide +kernel
theorem dX7_countAllCrossings_29 : decode cX7_countAllCrossings 29 = .ok (.iinc 2 1, 3) := by decide +kernel
theorem dX7_countAllCrossings_32 : decode cX7_countAllCrossings 32 = .ok (.goto (-28), 3) := by decide +kernel
theorem dX7_countAllCrossings_35 : decode cX7_countAllCrossings 35 = .ok (.iload_n 1, 1) := by decide +kernel
theorem dX7_countAllCrossings_36 : decode cX7_countAllCrossings 36 = .ok (.ireturn, 1) := by decide +kernel
theorem dX7_countCrossingsIn_0 : decode cX7_countCrossingsIn 0 = .ok (.iconst 0, 1) := by decide +kernel
theorem dX7_countCrossingsIn_1 : decode cX7_countCrossingsIn 1 = .ok (.istore_n 2, 1) := by decide +kernel
theorem dX7_countCrossingsIn_2 : decode cX7_countCrossingsIn 2 = .ok (.iconst 0, 1) := by decide +kernel
theorem dX7_countCrossingsIn_3 : decode cX7_countCrossingsIn 3 = .ok (.istore_n 3, 1) := by decide +kernel
theorem dX7_countCrossingsIn_4 : decode cX7_countCrossingsIn 4 = .ok (.iload_n 3, 1) := by decide +kernel
theorem dX7_countCrossingsIn_5 : decode cX7_countCrossingsIn 5 = .ok (.aload_n 0, 1) := by decide +kernel
theorem dX7_countCrossingsIn_6 : decode cX7_countCrossingsIn 6 = .ok (.getfield 30, 3) := by decide +kernel
theorem dX7_countCrossingsIn_9 : decode cX7_countCrossingsIn 9 = .ok (.getfield 54, 3) := by decide +kernel
theorem dX7_countCrossingsIn_12 : decode cX7_countCrossingsIn 12 = .ok (.if_icmp .ge 33, 3) := by decide +kernel
theorem dX7_countCrossingsIn_15 : decode cX7_countCrossingsIn 15 = .ok (.aload_n 0, 1) := by decide +kernel
theorem dX7_countCrossingsIn_16 : decode cX7_countCrossingsIn 16 = .ok (.getfield 30, 3) := by decide +kernel
theorem dX7_countCrossingsIn_19 : decode cX7_countCrossingsIn 19 = .ok (.getfield 76, 3) := by decide +kernel
theorem dX7_countCrossingsIn_22 : decode cX7_countCrossingsIn 22 = .ok (.iload_n 3, 1) := by decide +kernel
theorem dX7_countCrossingsIn_23 : decode cX7_countCrossingsIn 23 = .ok (.invokestatic 60, 3) := by decide +kernel
theorem dX7_countCrossingsIn_26 : decode cX7_countCrossingsIn 26 = .ok (.iload_n 1, 1) := by decide +kernel
theorem dX7_countCrossingsIn_27 : decode cX7_countCrossingsIn 27 = .ok (.if_icmp .ne 12, 3) := by decide +kernel
theorem dX7_countCrossingsIn_30 : decode cX7_countCrossingsIn 30 = .ok (.iload_n 2, 1) := by decide +kernel
theorem dX7_countCrossingsIn_31 : decode cX7_countCrossingsIn 31 = .ok (.aload_n 0, 1) := by decide +kernel
theorem dX7_countCrossingsIn_32 : decode cX7_countCrossingsIn 32 = .ok (.iload_n 3, 1) := by decide +kernel
theorem dX7_countCrossingsIn_33 : decode cX7_countCrossingsIn 33 = .ok (.iload_n 1, 1) := by decide +kernel
theorem dX7_countCrossingsIn_34 : decode cX7_countCrossingsIn 34 = .ok (.invokevirtual 102, 3) := by decide +kernel
theorem dX7_countCrossingsIn_37 : decode cX7_countCrossingsIn 37 = .ok (.iadd, 1) := by decide +kernel
theorem dX7_countCrossingsIn_38 : decode cX7_countCrossingsIn 38 = .ok (.istore_n 2, 1) := by decide +kernel
theorem dX7_countCrossingsIn_39 : decode cX7_countCrossingsIn 39 = .ok (.iinc 3 1, 3) := by decide +kernel
theorem dX7_countCrossingsIn_42 : decode cX7_countCrossingsIn 42 = .ok (.goto (-38), 3) := by decide +kernel
theorem dX7_countCrossingsIn_45 : decode cX7_countCrossingsIn 45 = .ok (.iload_n 2, 1) := by decide +kernel
theorem dX7_countCrossingsIn_46 : decode cX7_countCrossingsIn 46 = .ok (.ireturn, 1) := by decide +kernel
theorem dX7_countCrossed_0 : decode cX7_countCrossed 0 = .ok (.iconst 0, 1) := by decide +kernel
theorem dX7_countCrossed_1 : decode cX7_countCrossed 1 = .ok (.istore_n 3, 1) := by decide +kernel
theorem dX7_countCrossed_2 : decode cX7_countCrossed 2 = .ok (.iload_n 1, 1) := by decide +kernel
theorem dX7_countCrossed_3 : decode cX7_countCrossed 3 = .ok (.iconst 1, 1) := by decide +kernel
theorem dX7_countCrossed_4 : decode cX7_countCrossed 4 = .ok (.iadd, 1) := by decide +kernel
theorem dX7_countCrossed_5 : decode cX7_countCrossed 5 = .ok (.istore 4, 2) := by decide +kernel
theorem dX7_countCrossed_7 : decode cX7_countCrossed 7 = .ok (.iload 4, 2) := by decide +kernel
theorem dX7_countCrossed_9 : decode cX7_countCrossed 9 = .ok (.aload_n 0, 1) := by decide +kernel
theorem dX7_countCrossed_10 : decode cX7_countCrossed 10 = .ok (.getfield 30, 3) := by decide +kernel
theorem dX7_countCrossed_13 : decode cX7_countCrossed 13 = .ok (.getfield 54, 3) := by decide +kernel
theorem dX7_countCrossed_16 : decode cX7_countCrossed 16 = .ok (.if_icmp .ge 38, 3) := by decide +kernel
theorem dX7_countCrossed_19 : decode cX7_countCrossed 19 = .ok (.aload_n 0, 1) := by decide +kernel
theorem dX7_countCrossed_20 : decode cX7_countCrossed 20 = .ok (.getfield 30, 3) := by decide +kernel
theorem dX7_countCrossed_23 : decode cX7_countCrossed 23 = .ok (.getfield 76, 3) := by decide +kernel
theorem dX7_countCrossed_26 : decode cX7_countCrossed 26 = .ok (.iload 4, 2) := by decide +kernel
theorem dX7_countCrossed_28 : decode cX7_countCrossed 28 = .ok (.invokestatic 60, 3) := by decide +kernel
theorem dX7_countCrossed_31 : decode cX7_countCrossed 31 = .ok (.iload_n 2, 1) := by decide +kernel
theorem dX7_countCrossed_32 : decode cX7_countCrossed 32 = .ok (.if_icmp .ne 16, 3) := by decide +kernel
theorem dX7_countCrossed_35 : decode cX7_countCrossed 35 = .ok (.aload_n 0, 1) := by decide +kernel
theorem dX7_countCrossed_36 : decode cX7_countCrossed 36 = .ok (.iload_n 1, 1) := by decide +kernel
theorem dX7_countCrossed_37 : decode cX7_countCrossed 37 = .ok (.iload 4, 2) := by decide +kernel
theorem dX7_countCrossed_39 : decode cX7_countCrossed 39 = .ok (.invokevirtual 105, 3) := by decide +kernel
theorem dX7_countCrossed_42 : decode cX7_countCrossed 42 = .ok (.ifCond .eq 6, 3) := by decide +kernel
theorem dX7_countCrossed_45 : decode cX7_countCrossed 45 = .ok (.iinc 3 1, 3) := by decide +kernel
theorem dX7_countCrossed_48 : decode cX7_countCrossed 48 = .ok (.iinc 4 1, 3) := by decide +kernel
theorem dX7_countCrossed_51 : decode cX7_countCrossed 51 = .ok (.goto (-44), 3) := by decide +kernel
theorem dX7_countCrossed_54 : decode cX7_countCrossed 54 = .ok (.iload_n 3, 1) := by decide +kernel
theorem dX7_countCrossed_55 : decode cX7_countCrossed 55 = .ok (.ireturn, 1) := by decide +kernel
theorem dX7_cross_0 : decode cX7_cross 0 = .ok (.aload_n 0, 1) := by decide +kernel
theorem dX7_cross_1 : decode cX7_cross 1 = .ok (.getfield 18, 3) := by decide +kernel
theorem dX7_cross_4 : decode cX7_cross 4 = .ok (.aload_n 0, 1) := by decide +kernel
theorem dX7_cross_5 : decode cX7_cross 5 = .ok (.getfield 21, 3) := by decide +kernel
theorem dX7_cross_8 : decode cX7_cross 8 = .ok (.iload_n 1, 1) := by decide +kernel
theorem dX7_cross_9 : decode cX7_cross 9 = .ok (.invokestatic 60, 3) := by decide +kernel
theorem dX7_cross_12 : decode cX7_cross 12 = .ok (.invokestatic 60, 3) := by decide +kernel
theorem dX7_cross_15 : decode cX7_cross 15 = .ok (.istore_n 3, 1) := by decide +kernel
theorem dX7_cross_16 : decode cX7_cross 16 = .ok (.aload_n 0, 1) := by decide +kernel
theorem dX7_cross_17 : decode cX7_cross 17 = .ok (.getfield 18, 3) := by decide +kernel
theorem dX7_cross_20 : decode cX7_cross 20 = .ok (.aload_n 0, 1) := by decide +kernel
theorem dX7_cross_21 : decode cX7_cross 21 = .ok (.getfield 24, 3) := by decide +kernel
theorem dX7_cross_24 : decode cX7_cross 24 = .ok (.iload_n 1, 1) := by decide +kernel
theorem dX7_cross_25 : decode cX7_cross 25 = .ok (.invokestatic 60, 3) := by decide +kernel
theorem dX7_cross_28 : decode cX7_cross 28 = .ok (.invokestatic 60, 3) := by decide +kernel
theorem dX7_cross_31 : decode cX7_cross 31 = .ok (.istore 4, 2) := by decide +kernel
theorem dX7_cross_33 : decode cX7_cross 33 = .ok (.aload_n 0, 1) := by decide +kernel
theorem dX7_cross_34 : decode cX7_cross 34 = .ok (.getfield 18, 3) := by decide +kernel
theorem dX7_cross_37 : decode cX7_cross 37 = .ok (.aload_n 0, 1) := by decide +kernel
theorem dX7_cross_38 : decode cX7_cross 38 = .ok (.getfield 21, 3) := by decide +kernel
theorem dX7_cross_41 : decode cX7_cross 41 = .ok (.iload_n 2, 1) := by decide +kernel
theorem dX7_cross_42 : decode cX7_cross 42 = .ok (.invokestatic 60, 3) := by decide +kernel
theorem dX7_cross_45 : decode cX7_cross 45 = .ok (.invokestatic 60, 3) := by decide +kernel
theorem dX7_cross_48 : decode cX7_cross 48 = .ok (.istore 5, 2) := by decide +kernel
theorem dX7_cross_50 : decode cX7_cross 50 = .ok (.aload_n 0, 1) := by decide +kernel
theorem dX7_cross_51 : decode cX7_cross 51 = .ok (.getfield 18, 3) := by decide +kernel
theorem dX7_cross_54 : decode cX7_cross 54 = .ok (.aload_n 0, 1) := by decide +kernel
theorem dX7_cross_55 : decode cX7_cross 55 = .ok (.getfield 24, 3) := by decide +kernel
theorem dX7_cross_58 : decode cX7_cross 58 = .ok (.iload_n 2, 1) := by decide +kernel
theorem dX7_cross_59 : decode cX7_cross 59 = .ok (.invokestatic 60, 3) := by decide +kernel
theorem dX7_cross_62 : decode cX7_cross 62 = .ok (.invokestatic 60, 3) := by decide +kernel
theorem dX7_cross_65 : decode cX7_cross 65 = .ok (.istore 6, 2) := by decide +kernel
theorem dX7_cross_67 : decode cX7_cross 67 = .ok (.iload_n 3, 1) := by decide +kernel
theorem dX7_cross_68 : decode cX7_cross 68 = .ok (.iload 5, 2) := by decide +kernel
theorem dX7_cross_70 : decode cX7_cross 70 = .ok (.if_icmp .eq 23, 3) := by decide +kernel
theorem dX7_cross_73 : decode cX7_cross 73 = .ok (.iload_n 3, 1) := by decide +kernel
theorem dX7_cross_74 : decode cX7_cross 74 = .ok (.iload 6, 2) := by decide +kernel
theorem dX7_cross_76 : decode cX7_cross 76 = .ok (.if_icmp .eq 17, 3) := by decide +kernel
theorem dX7_cross_79 : decode cX7_cross 79 = .ok (.iload 4, 2) := by decide +kernel
theorem dX7_cross_81 : decode cX7_cross 81 = .ok (.iload 5, 2) := by decide +kernel
theorem dX7_cross_83 : decode cX7_cross 83 = .ok (.if_icmp .eq 10, 3) := by decide +kernel
theorem dX7_cross_86 : decode cX7_cross 86 = .ok (.iload 4, 2) := by decide +kernel
theorem dX7_cross_88 : decode cX7_cross 88 = .ok (.iload 6, 2) := by decide +kernel
theorem dX7_cross_90 : decode cX7_cross 90 = .ok (.if_icmp .ne 5, 3) := by decide +kernel
theorem dX7_cross_93 : decode cX7_cross 93 = .ok (.iconst 0, 1) := by decide +kernel
theorem dX7_cross_94 : decode cX7_cross 94 = .ok (.ireturn, 1) := by decide +kernel
theorem dX7_cross_95 : decode cX7_cross 95 = .ok (.iload 5, 2) := by decide +kernel
theorem dX7_cross_97 : decode cX7_cross 97 = .ok (.iload_n 3, 1) := by decide +kernel
theorem dX7_cross_98 : decode cX7_cross 98 = .ok (.iload 4, 2) := by decide +kernel
theorem dX7_cross_100 : decode cX7_cross 100 = .ok (.invokestatic 109, 3) := by decide +kernel
theorem dX7_cross_103 : decode cX7_cross 103 = .ok (.iload 6, 2) := by decide +kernel
theorem dX7_cross_105 : decode cX7_cross 105 = .ok (.iload_n 3, 1) := by decide +kernel
theorem dX7_cross_106 : decode cX7_cross 106 = .ok (.iload 4, 2) := by decide +kernel
theorem dX7_cross_108 : decode cX7_cross 108 = .ok (.invokestatic 109, 3) := by decide +kernel
theorem dX7_cross_111 : decode cX7_cross 111 = .ok (.if_icmp .eq 7, 3) := by decide +kernel
theorem dX7_cross_114 : decode cX7_cross 114 = .ok (.iconst 1, 1) := by decide +kernel
theorem dX7_cross_115 : decode cX7_cross 115 = .ok (.goto 4, 3) := by decide +kernel
theorem dX7_cross_118 : decode cX7_cross 118 = .ok (.iconst 0, 1) := by decide +kernel
theorem dX7_cross_119 : decode cX7_cross 119 = .ok (.ireturn, 1) := by decide +kernel
theorem dX7_liesBetween_0 : decode cX7_liesBetween 0 = .ok (.iload_n 0, 1) := by decide +kernel
theorem dX7_liesBetween_1 : decode cX7_liesBetween 1 = .ok (.iload_n 1, 1) := by decide +kernel
theorem dX7_liesBetween_2 : decode cX7_liesBetween 2 = .ok (.iload_n 2, 1) := by decide +kernel
theorem dX7_liesBetween_3 : decode cX7_liesBetween 3 = .ok (.invokestatic 113, 3) := by decide +kernel
theorem dX7_liesBetween_6 : decode cX7_liesBetween 6 = .ok (.if_icmp .le 16, 3) := by decide +kernel
theorem dX7_liesBetween_9 : decode cX7_liesBetween 9 = .ok (.iload_n 0, 1) := by decide +kernel
theorem dX7_liesBetween_10 : decode cX7_liesBetween 10 = .ok (.iload_n 1, 1) := by decide +kernel
theorem dX7_liesBetween_11 : decode cX7_liesBetween 11 = .ok (.iload_n 2, 1) := by decide +kernel
theorem dX7_liesBetween_12 : decode cX7_liesBetween 12 = .ok (.invokestatic 118, 3) := by decide +kernel
theorem dX7_liesBetween_15 : decode cX7_liesBetween 15 = .ok (.if_icmp .ge 7, 3) := by decide +kernel
theorem dX7_liesBetween_18 : decode cX7_liesBetween 18 = .ok (.iconst 1, 1) := by decide +kernel
theorem dX7_liesBetween_19 : decode cX7_liesBetween 19 = .ok (.goto 4, 3) := by decide +kernel
theorem dX7_liesBetween_22 : decode cX7_liesBetween 22 = .ok (.iconst 0, 1) := by decide +kernel
theorem dX7_liesBetween_23 : decode cX7_liesBetween 23 = .ok (.ireturn, 1) := by decide +kernel
theorem dX7_countCrossingsBelow_0 : decode cX7_countCrossingsBelow 0 = .ok (.iload_n 1, 1) := by decide +kernel
theorem dX7_countCrossingsBelow_1 : decode cX7_countCrossingsBelow 1 = .ok (.ifCond .lt 16, 3) := by decide +kernel
theorem dX7_countCrossingsBelow_4 : decode cX7_countCrossingsBelow 4 = .ok (.iload_n 1, 1) := by decide +kernel
theorem dX7_countCrossingsBelow_5 : decode cX7_countCrossingsBelow 5 = .ok (.iconst 1, 1) := by decide +kernel
theorem dX7_countCrossingsBelow_6 : decode cX7_countCrossingsBelow 6 = .ok (.iadd, 1) := by decide +kernel
theorem dX7_countCrossingsBelow_7 : decode cX7_countCrossingsBelow 7 = .ok (.aload_n 0, 1) := by decide +kernel
theorem dX7_countCrossingsBelow_8 : decode cX7_countCrossingsBelow 8 = .ok (.getfield 30, 3) := by decide +kernel
theorem dX7_countCrossingsBelow_11 : decode cX7_countCrossingsBelow 11 = .ok (.getfield 37, 3) := by decide +kernel
theorem dX7_countCrossingsBelow_14 : decode cX7_countCrossingsBelow 14 = .ok (.if_icmp .lt 5, 3) := by decide +kernel
theorem dX7_countCrossingsBelow_17 : decode cX7_countCrossingsBelow 17 = .ok (.iconst 0, 1) := by decide +kernel
theorem dX7_countCrossingsBelow_18 : decode cX7_countCrossingsBelow 18 = .ok (.ireturn, 1) := by decide +kernel
theorem dX7_countCrossingsBelow_19 : decode cX7_countCrossingsBelow 19 = .ok (.iconst 0, 1) := by decide +kernel
theorem dX7_countCrossingsBelow_20 : decode cX7_countCrossingsBelow 20 = .ok (.istore_n 2, 1) := by decide +kernel
theorem dX7_countCrossingsBelow_21 : decode cX7_countCrossingsBelow 21 = .ok (.aload_n 0, 1) := by decide +kernel
theorem dX7_countCrossingsBelow_22 : decode cX7_countCrossingsBelow 22 = .ok (.iload_n 1, 1) := by decide +kernel
theorem dX7_countCrossingsBelow_23 : decode cX7_countCrossingsBelow 23 = .ok (.iconst 1, 1) := by decide +kernel
theorem dX7_countCrossingsBelow_24 : decode cX7_countCrossingsBelow 24 = .ok (.iadd, 1) := by decide +kernel
theorem dX7_countCrossingsBelow_25 : decode cX7_countCrossingsBelow 25 = .ok (.invokevirtual 79, 3) := by decide +kernel
theorem dX7_countCrossingsBelow_28 : decode cX7_countCrossingsBelow 28 = .ok (.istore_n 3, 1) := by decide +kernel
theorem dX7_countCrossingsBelow_29 : decode cX7_countCrossingsBelow 29 = .ok (.iconst 0, 1) := by decide +kernel
theorem dX7_countCrossingsBelow_30 : decode cX7_countCrossingsBelow 30 = .ok (.istore 4, 2) := by decide +kernel
theorem dX7_countCrossingsBelow_32 : decode cX7_countCrossingsBelow 32 = .ok (.iload 4, 2) := by decide +kernel
theorem dX7_countCrossingsBelow_34 : decode cX7_countCrossingsBelow 34 = .ok (.iload_n 3, 1) := by decide +kernel
theorem dX7_countCrossingsBelow_35 : decode cX7_countCrossingsBelow 35 = .ok (.if_icmp .ge 81, 3) := by decide +kernel
theorem dX7_countCrossingsBelow_38 : decode cX7_countCrossingsBelow 38 = .ok (.aload_n 0, 1) := by decide +kernel
theorem dX7_countCrossingsBelow_39 : decode cX7_countCrossingsBelow 39 = .ok (.iload_n 1, 1) := by decide +kernel
theorem dX7_countCrossingsBelow_40 : decode cX7_countCrossingsBelow 40 = .ok (.iconst 1, 1) := by decide +kernel
theorem dX7_countCrossingsBelow_41 : decode cX7_countCrossingsBelow 41 = .ok (.iadd, 1) := by decide +kernel
theorem dX7_countCrossingsBelow_42 : decode cX7_countCrossingsBelow 42 = .ok (.iload 4, 2) := by decide +kernel
theorem dX7_countCrossingsBelow_44 : decode cX7_countCrossingsBelow 44 = .ok (.invokevirtual 83, 3) := by decide +kernel
theorem dX7_countCrossingsBelow_47 : decode cX7_countCrossingsBelow 47 = .ok (.istore 5, 2) := by decide +kernel
theorem dX7_countCrossingsBelow_49 : decode cX7_countCrossingsBelow 49 = .ok (.iload 4, 2) := by decide +kernel
theorem dX7_countCrossingsBelow_51 : decode cX7_countCrossingsBelow 51 = .ok (.iconst 1, 1) := by decide +kernel
theorem dX7_countCrossingsBelow_52 : decode cX7_countCrossingsBelow 52 = .ok (.iadd, 1) := by decide +kernel
theorem dX7_countCrossingsBelow_53 : decode cX7_countCrossingsBelow 53 = .ok (.istore 6, 2) := by decide +kernel
theorem dX7_countCrossingsBelow_55 : decode cX7_countCrossingsBelow 55 = .ok (.iload 6, 2) := by decide +kernel
theorem dX7_countCrossingsBelow_57 : decode cX7_countCrossingsBelow 57 = .ok (.iload_n 3, 1) := by decide +kernel
theorem dX7_countCrossingsBelow_58 : decode cX7_countCrossingsBelow 58 = .ok (.if_icmp .ge 52, 3) := by decide +kernel
theorem dX7_countCrossingsBelow_61 : decode cX7_countCrossingsBelow 61 = .ok (.iload 5, 2) := by decide +kernel
theorem dX7_countCrossingsBelow_63 : decode cX7_countCrossingsBelow 63 = .ok (.bipush 16, 2) := by decide +kernel
theorem dX7_countCrossingsBelow_65 : decode cX7_countCrossingsBelow 65 = .ok (.if_icmp .ge 45, 3) := by decide +kernel
theorem dX7_countCrossingsBelow_68 : decode cX7_countCrossingsBelow 68 = .ok (.aload_n 0, 1) := by decide +kernel
theorem dX7_countCrossingsBelow_69 : decode cX7_countCrossingsBelow 69 = .ok (.iload_n 1, 1) := by decide +kernel
theorem dX7_countCrossingsBelow_70 : decode cX7_countCrossingsBelow 70 = .ok (.iconst 1, 1) := by decide +kernel
theorem dX7_countCrossingsBelow_71 : decode cX7_countCrossingsBelow 71 = .ok (.iadd, 1) := by decide +kernel
theorem dX7_countCrossingsBelow_72 : decode cX7_countCrossingsBelow 72 = .ok (.iload 6, 2) := by decide +kernel
theorem dX7_countCrossingsBelow_74 : decode cX7_countCrossingsBelow 74 = .ok (.invokevirtual 83, 3) := by decide +kernel
theorem dX7_countCrossingsBelow_77 : decode cX7_countCrossingsBelow 77 = .ok (.istore 7, 2) := by decide +kernel
theorem dX7_countCrossingsBelow_79 : decode cX7_countCrossingsBelow 79 = .ok (.iload 7, 2) := by decide +kernel
theorem dX7_countCrossingsBelow_81 : decode cX7_countCrossingsBelow 81 = .ok (.bipush 16, 2) := by decide +kernel
theorem dX7_countCrossingsBelow_83 : decode cX7_countCrossingsBelow 83 = .ok (.if_icmp .ge 21, 3) := by decide +kernel
theorem dX7_countCrossingsBelow_86 : decode cX7_countCrossingsBelow 86 = .ok (.aload_n 0, 1) := by decide +kernel
theorem dX7_countCrossingsBelow_87 : decode cX7_countCrossingsBelow 87 = .ok (.iload 5, 2) := by decide +kernel
theorem dX7_countCrossingsBelow_89 : decode cX7_countCrossingsBelow 89 = .ok (.invokevirtual 121, 3) := by decide +kernel
theorem dX7_countCrossingsBelow_92 : decode cX7_countCrossingsBelow 92 = .ok (.aload_n 0, 1) := by decide +kernel
theorem dX7_countCrossingsBelow_93 : decode cX7_countCrossingsBelow 93 = .ok (.iload 7, 2) := by decide +kernel
theorem dX7_countCrossingsBelow_95 : decode cX7_countCrossingsBelow 95 = .ok (.invokevirtual 121, 3) := by decide +kernel
theorem dX7_countCrossingsBelow_98 : decode cX7_countCrossingsBelow 98 = .ok (.if_icmp .le 6, 3) := by decide +kernel
theorem dX7_countCrossingsBelow_101 : decode cX7_countCrossingsBelow 101 = .ok (.iinc 2 1, 3) := by decide +kernel
theorem dX7_countCrossingsBelow_104 : decode cX7_countCrossingsBelow 104 = .ok (.iinc 6 1, 3) := by decide +kernel
theorem dX7_countCrossingsBelow_107 : decode cX7_countCrossingsBelow 107 = .ok (.goto (-52), 3) := by decide +kernel
theorem dX7_countCrossingsBelow_110 : decode cX7_countCrossingsBelow 110 = .ok (.iinc 4 1, 3) := by decide +kernel
theorem dX7_countCrossingsBelow_113 : decode cX7_countCrossingsBelow 113 = .ok (.goto (-81), 3) := by decide +kernel
theorem dX7_countCrossingsBelow_116 : decode cX7_countCrossingsBelow 116 = .ok (.iload_n 2, 1) := by decide +kernel
theorem dX7_countCrossingsBelow_117 : decode cX7_countCrossingsBelow 117 = .ok (.ireturn, 1) := by decide +kernel
theorem dX7_middleOfParents_0 : decode cX7_middleOfParents 0 = .ok (.aload_n 0, 1) := by decide +kernel
theorem dX7_middleOfParents_1 : decode cX7_middleOfParents 1 = .ok (.aload_n 0, 1) := by decide +kernel
theorem dX7_middleOfParents_2 : decode cX7_middleOfParents 2 = .ok (.getfield 30, 3) := by decide +kernel
theorem dX7_middleOfParents_5 : decode cX7_middleOfParents 5 = .ok (.getfield 124, 3) := by decide +kernel
theorem dX7_middleOfParents_8 : decode cX7_middleOfParents 8 = .ok (.iload_n 1, 1) := by decide +kernel
theorem dX7_middleOfParents_9 : decode cX7_middleOfParents 9 = .ok (.invokestatic 60, 3) := by decide +kernel
theorem dX7_middleOfParents_12 : decode cX7_middleOfParents 12 = .ok (.invokevirtual 127, 3) := by decide +kernel
theorem dX7_middleOfParents_15 : decode cX7_middleOfParents 15 = .ok (.ireturn, 1) := by decide +kernel
theorem dX7_swapWhereBetter_0 : decode cX7_swapWhereBetter 0 = .ok (.iconst 0, 1) := by decide +kernel
theorem dX7_swapWhereBetter_1 : decode cX7_swapWhereBetter 1 = .ok (.istore_n 1, 1) := by decide +kernel
theorem dX7_swapWhereBetter_2 : decode cX7_swapWhereBetter 2 = .ok (.iconst 0, 1) := by decide +kernel
theorem dX7_swapWhereBetter_3 : decode cX7_swapWhereBetter 3 = .ok (.istore_n 2, 1) := by decide +kernel
theorem dX7_swapWhereBetter_4 : decode cX7_swapWhereBetter 4 = .ok (.iload_n 2, 1) := by decide +kernel
theorem dX7_swapWhereBetter_5 : decode cX7_swapWhereBetter 5 = .ok (.aload_n 0, 1) := by decide +kernel
theorem dX7_swapWhereBetter_6 : decode cX7_swapWhereBetter 6 = .ok (.getfield 30, 3) := by decide +kernel
theorem dX7_swapWhereBetter_9 : decode cX7_swapWhereBetter 9 = .ok (.getfield 37, 3) := by decide +kernel
theorem dX7_swapWhereBetter_12 : decode cX7_swapWhereBetter 12 = .ok (.if_icmp .ge 80, 3) := by decide +kernel
theorem dX7_swapWhereBetter_15 : decode cX7_swapWhereBetter 15 = .ok (.aload_n 0, 1) := by decide +kernel
theorem dX7_swapWhereBetter_16 : decode cX7_swapWhereBetter 16 = .ok (.iload_n 2, 1) := by decide +kernel
theorem dX7_swapWhereBetter_17 : decode cX7_swapWhereBetter 17 = .ok (.invokevirtual 130, 3) := by decide +kernel
theorem dX7_swapWhereBetter_20 : decode cX7_swapWhereBetter 20 = .ok (.istore_n 3, 1) := by decide +kernel
theorem dX7_swapWhereBetter_21 : decode cX7_swapWhereBetter 21 = .ok (.iconst 0, 1) := by decide +kernel
theorem dX7_swapWhereBetter_22 : decode cX7_swapWhereBetter 22 = .ok (.istore 4, 2) := by decide +kernel
theorem dX7_swapWhereBetter_24 : decode cX7_swapWhereBetter 24 = .ok (.iload 4, 2) := by decide +kernel
theorem dX7_swapWhereBetter_26 : decode cX7_swapWhereBetter 26 = .ok (.iconst 1, 1) := by decide +kernel
theorem dX7_swapWhereBetter_27 : decode cX7_swapWhereBetter 27 = .ok (.iadd, 1) := by decide +kernel
theorem dX7_swapWhereBetter_28 : decode cX7_swapWhereBetter 28 = .ok (.aload_n 0, 1) := by decide +kernel
theorem dX7_swapWhereBetter_29 : decode cX7_swapWhereBetter 29 = .ok (.iload_n 2, 1) := by decide +kernel
theorem dX7_swapWhereBetter_30 : decode cX7_swapWhereBetter 30 = .ok (.invokevirtual 79, 3) := by decide +kernel
theorem dX7_swapWhereBetter_33 : decode cX7_swapWhereBetter 33 = .ok (.if_icmp .ge 53, 3) := by decide +kernel
theorem dX7_swapWhereBetter_36 : decode cX7_swapWhereBetter 36 = .ok (.aload_n 0, 1) := by decide +kernel
theorem dX7_swapWhereBetter_37 : decode cX7_swapWhereBetter 37 = .ok (.iload_n 2, 1) := by decide +kernel
theorem dX7_swapWhereBetter_38 : decode cX7_swapWhereBetter 38 = .ok (.iload 4, 2) := by decide +kernel
theorem dX7_swapWhereBetter_40 : decode cX7_swapWhereBetter 40 = .ok (.iload 4, 2) := by decide +kernel
theorem dX7_swapWhereBetter_42 : decode cX7_swapWhereBetter 42 = .ok (.iconst 1, 1) := by decide +kernel
theorem dX7_swapWhereBetter_43 : decode cX7_swapWhereBetter 43 = .ok (.iadd, 1) := by decide +kernel
theorem dX7_swapWhereBetter_44 : decode cX7_swapWhereBetter 44 = .ok (.invokevirtual 133, 3) := by decide +kernel
theorem dX7_swapWhereBetter_47 : decode cX7_swapWhereBetter 47 = .ok (.aload_n 0, 1) := by decide +kernel
theorem dX7_swapWhereBetter_48 : decode cX7_swapWhereBetter 48 = .ok (.iload_n 2, 1) := by decide +kernel
theorem dX7_swapWhereBetter_49 : decode cX7_swapWhereBetter 49 = .ok (.invokevirtual 130, 3) := by decide +kernel
theorem dX7_swapWhereBetter_52 : decode cX7_swapWhereBetter 52 = .ok (.istore 5, 2) := by decide +kernel
theorem dX7_swapWhereBetter_54 : decode cX7_swapWhereBetter 54 = .ok (.iload 5, 2) := by decide +kernel
theorem dX7_swapWhereBetter_56 : decode cX7_swapWhereBetter 56 = .ok (.iload_n 3, 1) := by decide +kernel
theorem dX7_swapWhereBetter_57 : decode cX7_swapWhereBetter 57 = .ok (.if_icmp .ge 12, 3) := by decide +kernel
theorem dX7_swapWhereBetter_60 : decode cX7_swapWhereBetter 60 = .ok (.iload 5, 2) := by decide +kernel
theorem dX7_swapWhereBetter_62 : decode cX7_swapWhereBetter 62 = .ok (.istore_n 3, 1) := by decide +kernel
theorem dX7_swapWhereBetter_63 : decode cX7_swapWhereBetter 63 = .ok (.iinc 1 1, 3) := by decide +kernel
theorem dX7_swapWhereBetter_66 : decode cX7_swapWhereBetter 66 = .ok (.goto 14, 3) := by decide +kernel
theorem dX7_swapWhereBetter_69 : decode cX7_swapWhereBetter 69 = .ok (.aload_n 0, 1) := by decide +kernel
theorem dX7_swapWhereBetter_70 : decode cX7_swapWhereBetter 70 = .ok (.iload_n 2, 1) := by decide +kernel
theorem dX7_swapWhereBetter_71 : decode cX7_swapWhereBetter 71 = .ok (.iload 4, 2) := by decide +kernel
theorem dX7_swapWhereBetter_73 : decode cX7_swapWhereBetter 73 = .ok (.iload 4, 2) := by decide +kernel
theorem dX7_swapWhereBetter_75 : decode cX7_swapWhereBetter 75 = .ok (.iconst 1, 1) := by decide +kernel
theorem dX7_swapWhereBetter_76 : decode cX7_swapWhereBetter 76 = .ok (.iadd, 1) := by decide +kernel
theorem dX7_swapWhereBetter_77 : decode cX7_swapWhereBetter 77 = .ok (.invokevirtual 133, 3) := by decide +kernel
theorem dX7_swapWhereBetter_80 : decode cX7_swapWhereBetter 80 = .ok (.iinc 4 1, 3) := by decide +kernel
theorem dX7_swapWhereBetter_83 : decode cX7_swapWhereBetter 83 = .ok (.goto (-59), 3) := by decide +kernel
theorem dX7_swapWhereBetter_86 : decode cX7_swapWhereBetter 86 = .ok (.iinc 2 1, 3) := by decide +kernel
theorem dX7_swapWhereBetter_89 : decode cX7_swapWhereBetter 89 = .ok (.goto (-85), 3) := by decide +kernel
theorem dX7_swapWhereBetter_92 : decode cX7_swapWhereBetter 92 = .ok (.iload_n 1, 1) := by decide +kernel
theorem dX7_swapWhereBetter_93 : decode cX7_swapWhereBetter 93 = .ok (.ireturn, 1) := by decide +kernel
theorem dX7_countCrossingsAround_0 : decode cX7_countCrossingsAround 0 = .ok (.aload_n 0, 1) := by decide +kernel
theorem dX7_countCrossingsAround_1 : decode cX7_countCrossingsAround 1 = .ok (.iload_n 1, 1) := by decide +kernel
theorem dX7_countCrossingsAround_2 : decode cX7_countCrossingsAround 2 = .ok (.iconst 1, 1) := by decide +kernel
theorem dX7_countCrossingsAround_3 : decode cX7_countCrossingsAround 3 = .ok (.isub, 1) := by decide +kernel
theorem dX7_countCrossingsAround_4 : decode cX7_countCrossingsAround 4 = .ok (.invokevirtual 99, 3) := by decide +kernel
theorem dX7_countCrossingsAround_7 : decode cX7_countCrossingsAround 7 = .ok (.aload_n 0, 1) := by decide +kernel
theorem dX7_countCrossingsAround_8 : decode cX7_countCrossingsAround 8 = .ok (.iload_n 1, 1) := by decide +kernel
theorem dX7_countCrossingsAround_9 : decode cX7_countCrossingsAround 9 = .ok (.invokevirtual 96, 3) := by decide +kernel
theorem dX7_countCrossingsAround_12 : decode cX7_countCrossingsAround 12 = .ok (.iadd, 1) := by decide +kernel
theorem dX7_countCrossingsAround_13 : decode cX7_countCrossingsAround 13 = .ok (.aload_n 0, 1) := by decide +kernel
theorem dX7_countCrossingsAround_14 : decode cX7_countCrossingsAround 14 = .ok (.iload_n 1, 1) := by decide +kernel
theorem dX7_countCrossingsAround_15 : decode cX7_countCrossingsAround 15 = .ok (.invokevirtual 99, 3) := by decide +kernel
theorem dX7_countCrossingsAround_18 : decode cX7_countCrossingsAround 18 = .ok (.iadd, 1) := by decide +kernel
theorem dX7_countCrossingsAround_19 : decode cX7_countCrossingsAround 19 = .ok (.ireturn, 1) := by decide +kernel
theorem dX7_sortByKeys_0 : decode cX7_sortByKeys 0 = .ok (.iconst 1, 1) := by decide +kernel
theorem dX7_sortByKeys_1 : decode cX7_sortByKeys 1 = .ok (.istore_n 1, 1) := by decide +kernel
theorem dX7_sortByKeys_2 : decode cX7_sortByKeys 2 = .ok (.iload_n 1, 1) := by decide +kernel
theorem dX7_sortByKeys_3 : decode cX7_sortByKeys 3 = .ok (.aload_n 0, 1) := by decide +kernel
theorem dX7_sortByKeys_4 : decode cX7_sortByKeys 4 = .ok (.getfield 30, 3) := by decide +kernel
theorem dX7_sortByKeys_7 : decode cX7_sortByKeys 7 = .ok (.getfield 37, 3) := by decide +kernel
theorem dX7_sortByKeys_10 : decode cX7_sortByKeys 10 = .ok (.if_icmp .ge 52, 3) := by decide +kernel
theorem dX7_sortByKeys_13 : decode cX7_sortByKeys 13 = .ok (.iconst 0, 1) := by decide +kernel
theorem dX7_sortByKeys_14 : decode cX7_sortByKeys 14 = .ok (.istore_n 2, 1) := by decide +kernel
theorem dX7_sortByKeys_15 : decode cX7_sortByKeys 15 = .ok (.iload_n 2, 1) := by decide +kernel
theorem dX7_sortByKeys_16 : decode cX7_sortByKeys 16 = .ok (.aload_n 0, 1) := by decide +kernel
theorem dX7_sortByKeys_17 : decode cX7_sortByKeys 17 = .ok (.iload_n 1, 1) := by decide +kernel
theorem dX7_sortByKeys_18 : decode cX7_sortByKeys 18 = .ok (.invokevirtual 79, 3) := by decide +kernel
theorem dX7_sortByKeys_21 : decode cX7_sortByKeys 21 = .ok (.if_icmp .ge 30, 3) := by decide +kernel
theorem dX7_sortByKeys_24 : decode cX7_sortByKeys 24 = .ok (.aload_n 0, 1) := by decide +kernel
theorem dX7_sortByKeys_25 : decode cX7_sortByKeys 25 = .ok (.iload_n 1, 1) := by decide +kernel
theorem dX7_sortByKeys_26 : decode cX7_sortByKeys 26 = .ok (.iload_n 2, 1) := by decide +kernel
theorem dX7_sortByKeys_27 : decode cX7_sortByKeys 27 = .ok (.invokevirtual 83, 3) := by decide +kernel
theorem dX7_sortByKeys_30 : decode cX7_sortByKeys 30 = .ok (.istore_n 3, 1) := by decide +kernel
theorem dX7_sortByKeys_31 : decode cX7_sortByKeys 31 = .ok (.aload_n 0, 1) := by decide +kernel
theorem dX7_sortByKeys_32 : decode cX7_sortByKeys 32 = .ok (.getfield 27, 3) := by decide +kernel
theorem dX7_sortByKeys_35 : decode cX7_sortByKeys 35 = .ok (.iload_n 3, 1) := by decide +kernel
theorem dX7_sortByKeys_36 : decode cX7_sortByKeys 36 = .ok (.aload_n 0, 1) := by decide +kernel
theorem dX7_sortByKeys_37 : decode cX7_sortByKeys 37 = .ok (.iload_n 3, 1) := by decide +kernel
theorem dX7_sortByKeys_38 : decode cX7_sortByKeys 38 = .ok (.iload_n 1, 1) := by decide +kernel
theorem dX7_sortByKeys_39 : decode cX7_sortByKeys 39 = .ok (.invokevirtual 137, 3) := by decide +kernel
theorem dX7_sortByKeys_42 : decode cX7_sortByKeys 42 = .ok (.invokestatic 43, 3) := by decide +kernel
theorem dX7_sortByKeys_45 : decode cX7_sortByKeys 45 = .ok (.iinc 2 1, 3) := by decide +kernel
theorem dX7_sortByKeys_48 : decode cX7_sortByKeys 48 = .ok (.goto (-33), 3) := by decide +kernel
theorem dX7_sortByKeys_51 : decode cX7_sortByKeys 51 = .ok (.aload_n 0, 1) := by decide +kernel
theorem dX7_sortByKeys_52 : decode cX7_sortByKeys 52 = .ok (.iload_n 1, 1) := by decide +kernel
theorem dX7_sortByKeys_53 : decode cX7_sortByKeys 53 = .ok (.invokevirtual 140, 3) := by decide +kernel
theorem dX7_sortByKeys_56 : decode cX7_sortByKeys 56 = .ok (.iinc 1 1, 3) := by decide +kernel
theorem dX7_sortByKeys_59 : decode cX7_sortByKeys 59 = .ok (.goto (-57), 3) := by decide +kernel
theorem dX7_sortByKeys_62 : decode cX7_sortByKeys 62 = .ok (.return_, 1) := by decide +kernel
theorem dX7_keyOf_0 : decode cX7_keyOf 0 = .ok (.iload_n 1, 1) := by decide +kernel
theorem dX7_keyOf_1 : decode cX7_keyOf 1 = .ok (.invokestatic 93, 3) := by decide +kernel
theorem dX7_keyOf_4 : decode cX7_keyOf 4 = .ok (.istore_n 3, 1) := by decide +kernel
theorem dX7_keyOf_5 : decode cX7_keyOf 5 = .ok (.iload_n 3, 1) := by decide +kernel
theorem dX7_keyOf_6 : decode cX7_keyOf 6 = .ok (.iconst (-1), 1) := by decide +kernel
theorem dX7_keyOf_7 : decode cX7_keyOf 7 = .ok (.if_icmp .ne 7, 3) := by decide +kernel
theorem dX7_keyOf_10 : decode cX7_keyOf 10 = .ok (.iload_n 1, 1) := by decide +kernel
theorem dX7_keyOf_11 : decode cX7_keyOf 11 = .ok (.goto 16, 3) := by decide +kernel
theorem dX7_keyOf_14 : decode cX7_keyOf 14 = .ok (.aload_n 0, 1) := by decide +kernel
theorem dX7_keyOf_15 : decode cX7_keyOf 15 = .ok (.getfield 30, 3) := by decide +kernel
theorem dX7_keyOf_18 : decode cX7_keyOf 18 = .ok (.iload_n 3, 1) := by decide +kernel
theorem dX7_keyOf_19 : decode cX7_keyOf 19 = .ok (.aload_n 0, 1) := by decide +kernel
theorem dX7_keyOf_20 : decode cX7_keyOf 20 = .ok (.iload_n 1, 1) := by decide +kernel
theorem dX7_keyOf_21 : decode cX7_keyOf 21 = .ok (.invokevirtual 144, 3) := by decide +kernel
theorem dX7_keyOf_24 : decode cX7_keyOf 24 = .ok (.invokevirtual 147, 3) := by decide +kernel
theorem dX7_keyOf_27 : decode cX7_keyOf 27 = .ok (.istore 4, 2) := by decide +kernel
theorem dX7_keyOf_29 : decode cX7_keyOf 29 = .ok (.aload_n 0, 1) := by decide +kernel
theorem dX7_keyOf_30 : decode cX7_keyOf 30 = .ok (.getfield 30, 3) := by decide +kernel
theorem dX7_keyOf_33 : decode cX7_keyOf 33 = .ok (.getfield 73, 3) := by decide +kernel
theorem dX7_keyOf_36 : decode cX7_keyOf 36 = .ok (.iload 4, 2) := by decide +kernel
theorem dX7_keyOf_38 : decode cX7_keyOf 38 = .ok (.invokestatic 60, 3) := by decide +kernel
theorem dX7_keyOf_41 : decode cX7_keyOf 41 = .ok (.iload_n 2, 1) := by decide +kernel
theorem dX7_keyOf_42 : decode cX7_keyOf 42 = .ok (.if_icmp .ne 19, 3) := by decide +kernel
theorem dX7_keyOf_45 : decode cX7_keyOf 45 = .ok (.aload_n 0, 1) := by decide +kernel
theorem dX7_keyOf_46 : decode cX7_keyOf 46 = .ok (.getfield 30, 3) := by decide +kernel
theorem dX7_keyOf_49 : decode cX7_keyOf 49 = .ok (.iload 4, 2) := by decide +kernel
theorem dX7_keyOf_51 : decode cX7_keyOf 51 = .ok (.invokevirtual 150, 3) := by decide +kernel
theorem dX7_keyOf_54 : decode cX7_keyOf 54 = .ok (.ifCond .eq 7, 3) := by decide +kernel
theorem dX7_keyOf_57 : decode cX7_keyOf 57 = .ok (.iconst 1, 1) := by decide +kernel
theorem dX7_keyOf_58 : decode cX7_keyOf 58 = .ok (.goto 4, 3) := by decide +kernel
theorem dX7_keyOf_61 : decode cX7_keyOf 61 = .ok (.iconst 0, 1) := by decide +kernel
theorem dX7_keyOf_62 : decode cX7_keyOf 62 = .ok (.istore 5, 2) := by decide +kernel
theorem dX7_keyOf_64 : decode cX7_keyOf 64 = .ok (.iload 5, 2) := by decide +kernel
theorem dX7_keyOf_66 : decode cX7_keyOf 66 = .ok (.ifCond .eq 12, 3) := by decide +kernel
theorem dX7_keyOf_69 : decode cX7_keyOf 69 = .ok (.aload_n 0, 1) := by decide +kernel
theorem dX7_keyOf_70 : decode cX7_keyOf 70 = .ok (.iload 4, 2) := by decide +kernel
theorem dX7_keyOf_72 : decode cX7_keyOf 72 = .ok (.invokevirtual 121, 3) := by decide +kernel
theorem dX7_keyOf_75 : decode cX7_keyOf 75 = .ok (.goto 6, 3) := by decide +kernel
theorem dX7_keyOf_78 : decode cX7_keyOf 78 = .ok (.sipush 1000, 3) := by decide +kernel
theorem dX7_keyOf_81 : decode cX7_keyOf 81 = .ok (.ireturn, 1) := by decide +kernel
theorem dX7_sortRow_0 : decode cX7_sortRow 0 = .ok (.iconst 1, 1) := by decide +kernel
theorem dX7_sortRow_1 : decode cX7_sortRow 1 = .ok (.istore_n 2, 1) := by decide +kernel
theorem dX7_sortRow_2 : decode cX7_sortRow 2 = .ok (.iload_n 2, 1) := by decide +kernel
theorem dX7_sortRow_3 : decode cX7_sortRow 3 = .ok (.aload_n 0, 1) := by decide +kernel
theorem dX7_sortRow_4 : decode cX7_sortRow 4 = .ok (.iload_n 1, 1) := by decide +kernel
theorem dX7_sortRow_5 : decode cX7_sortRow 5 = .ok (.invokevirtual 79, 3) := by decide +kernel
theorem dX7_sortRow_8 : decode cX7_sortRow 8 = .ok (.if_icmp .ge 47, 3) := by decide +kernel
theorem dX7_sortRow_11 : decode cX7_sortRow 11 = .ok (.iload_n 2, 1) := by decide +kernel
theorem dX7_sortRow_12 : decode cX7_sortRow 12 = .ok (.istore_n 3, 1) := by decide +kernel
theorem dX7_sortRow_13 : decode cX7_sortRow 13 = .ok (.iload_n 3, 1) := by decide +kernel
theorem dX7_sortRow_14 : decode cX7_sortRow 14 = .ok (.ifCond .le 35, 3) := by decide +kernel
theorem dX7_sortRow_17 : decode cX7_sortRow 17 = .ok (.aload_n 0, 1) := by decide +kernel
theorem dX7_sortRow_18 : decode cX7_sortRow 18 = .ok (.iload_n 1, 1) := by decide +kernel
theorem dX7_sortRow_19 : decode cX7_sortRow 19 = .ok (.iload_n 3, 1) := by decide +kernel
theorem dX7_sortRow_20 : decode cX7_sortRow 20 = .ok (.iconst 1, 1) := by decide +kernel
theorem dX7_sortRow_21 : decode cX7_sortRow 21 = .ok (.isub, 1) := by decide +kernel
theorem dX7_sortRow_22 : decode cX7_sortRow 22 = .ok (.invokevirtual 154, 3) := by decide +kernel
theorem dX7_sortRow_25 : decode cX7_sortRow 25 = .ok (.aload_n 0, 1) := by decide +kernel
theorem dX7_sortRow_26 : decode cX7_sortRow 26 = .ok (.iload_n 1, 1) := by decide +kernel
theorem dX7_sortRow_27 : decode cX7_sortRow 27 = .ok (.iload_n 3, 1) := by decide +kernel
theorem dX7_sortRow_28 : decode cX7_sortRow 28 = .ok (.invokevirtual 154, 3) := by decide +kernel
theorem dX7_sortRow_31 : decode cX7_sortRow 31 = .ok (.if_icmp .le 18, 3) := by decide +kernel
theorem dX7_sortRow_34 : decode cX7_sortRow 34 = .ok (.aload_n 0, 1) := by decide +kernel
theorem dX7_sortRow_35 : decode cX7_sortRow 35 = .ok (.iload_n 1, 1) := by decide +kernel
theorem dX7_sortRow_36 : decode cX7_sortRow 36 = .ok (.iload_n 3, 1) := by decide +kernel
theorem dX7_sortRow_37 : decode cX7_sortRow 37 = .ok (.iconst 1, 1) := by decide +kernel
theorem dX7_sortRow_38 : decode cX7_sortRow 38 = .ok (.isub, 1) := by decide +kernel
theorem dX7_sortRow_39 : decode cX7_sortRow 39 = .ok (.iload_n 3, 1) := by decide +kernel
theorem dX7_sortRow_40 : decode cX7_sortRow 40 = .ok (.invokevirtual 133, 3) := by decide +kernel
theorem dX7_sortRow_43 : decode cX7_sortRow 43 = .ok (.iinc 3 (-1), 3) := by decide +kernel
theorem dX7_sortRow_46 : decode cX7_sortRow 46 = .ok (.goto (-33), 3) := by decide +kernel
theorem dX7_sortRow_49 : decode cX7_sortRow 49 = .ok (.iinc 2 1, 3) := by decide +kernel
theorem dX7_sortRow_52 : decode cX7_sortRow 52 = .ok (.goto (-50), 3) := by decide +kernel
theorem dX7_sortRow_55 : decode cX7_sortRow 55 = .ok (.return_, 1) := by decide +kernel
theorem dX7_keyAt_0 : decode cX7_keyAt 0 = .ok (.aload_n 0, 1) := by decide +kernel
theorem dX7_keyAt_1 : decode cX7_keyAt 1 = .ok (.getfield 27, 3) := by decide +kernel
theorem dX7_keyAt_4 : decode cX7_keyAt 4 = .ok (.aload_n 0, 1) := by decide +kernel
theorem dX7_keyAt_5 : decode cX7_keyAt 5 = .ok (.iload_n 1, 1) := by decide +kernel
theorem dX7_keyAt_6 : decode cX7_keyAt 6 = .ok (.iload_n 2, 1) := by decide +kernel
theorem dX7_keyAt_7 : decode cX7_keyAt 7 = .ok (.invokevirtual 83, 3) := by decide +kernel
theorem dX7_keyAt_10 : decode cX7_keyAt 10 = .ok (.invokestatic 60, 3) := by decide +kernel
theorem dX7_keyAt_13 : decode cX7_keyAt 13 = .ok (.ireturn, 1) := by decide +kernel
theorem dX8_init_0 : decode cX8_init 0 = .ok (.aload_n 0, 1) := by decide +kernel
theorem dX8_init_1 : decode cX8_init 1 = .ok (.invokespecial 3, 3) := by decide +kernel
theorem dX8_init_4 : decode cX8_init 4 = .ok (.aload_n 0, 1) := by decide +kernel
theorem dX8_init_5 : decode cX8_init 5 = .ok (.new 9, 3) := by decide +kernel
theorem dX8_init_8 : decode cX8_init 8 = .ok (.dup, 1) := by decide +kernel
theorem dX8_init_9 : decode cX8_init 9 = .ok (.invokespecial 11, 3) := by decide +kernel
theorem dX8_init_12 : decode cX8_init 12 = .ok (.putfield 12, 3) := by decide +kernel
theorem dX8_init_15 : decode cX8_init 15 = .ok (.aload_n 0, 1) := by decide +kernel
theorem dX8_init_16 : decode cX8_init 16 = .ok (.aload_n 1, 1) := by decide +kernel
theorem dX8_init_17 : decode cX8_init 17 = .ok (.putfield 18, 3) := by decide +kernel
theorem dX8_init_20 : decode cX8_init 20 = .ok (.return_, 1) := by decide +kernel
theorem dX8_read_0 : decode cX8_read 0 = .ok (.aload_n 0, 1) := by decide +kernel
theorem dX8_read_1 : decode cX8_read 1 = .ok (.getfield 12, 3) := by decide +kernel
theorem dX8_read_4 : decode cX8_read 4 = .ok (.invokevirtual 22, 3) := by decide +kernel
theorem dX8_read_7 : decode cX8_read 7 = .ok (.aload_n 0, 1) := by decide +kernel
theorem dX8_read_8 : decode cX8_read 8 = .ok (.getfield 18, 3) := by decide +kernel
theorem dX8_read_11 : decode cX8_read 11 = .ok (.iload_n 1, 1) := by decide +kernel
theorem dX8_read_12 : decode cX8_read 12 = .ok (.invokevirtual 25, 3) := by decide +kernel
theorem dX8_read_15 : decode cX8_read 15 = .ok (.iconst 0, 1) := by decide +kernel
theorem dX8_read_16 : decode cX8_read 16 = .ok (.istore_n 2, 1) := by decide +kernel
theorem dX8_read_17 : decode cX8_read 17 = .ok (.iload_n 2, 1) := by decide +kernel
theorem dX8_read_18 : decode cX8_read 18 = .ok (.sipush 800, 3) := by decide +kernel
theorem dX8_read_21 : decode cX8_read 21 = .ok (.if_icmp .ge 82, 3) := by decide +kernel
theorem dX8_read_24 : decode cX8_read 24 = .ok (.aload_n 0, 1) := by decide +kernel
theorem dX8_read_25 : decode cX8_read 25 = .ok (.getfield 18, 3) := by decide +kernel
theorem dX8_read_28 : decode cX8_read 28 = .ok (.invokevirtual 31, 3) := by decide +kernel
theorem dX8_read_31 : decode cX8_read 31 = .ok (.ifCond .eq 72, 3) := by decide +kernel
theorem dX8_read_34 : decode cX8_read 34 = .ok (.aload_n 0, 1) := by decide +kernel
theorem dX8_read_35 : decode cX8_read 35 = .ok (.getfield 18, 3) := by decide +kernel
theorem dX8_read_38 : decode cX8_read 38 = .ok (.getfield 35, 3) := by decide +kernel
theorem dX8_read_41 : decode cX8_read 41 = .ok (.ifCond .eq 62, 3) := by decide +kernel
theorem dX8_read_44 : decode cX8_read 44 = .ok (.aload_n 0, 1) := by decide +kernel
theorem dX8_read_45 : decode cX8_read 45 = .ok (.getfield 18, 3) := by decide +kernel
theorem dX8_read_48 : decode cX8_read 48 = .ok (.ldc 39, 2) := by decide +kernel
theorem dX8_read_50 : decode cX8_read 50 = .ok (.invokevirtual 41, 3) := by decide +kernel
theorem dX8_read_53 : decode cX8_read 53 = .ok (.ifCond .eq 10, 3) := by decide +kernel
theorem dX8_read_56 : decode cX8_read 56 = .ok (.aload_n 0, 1) := by decide +kernel
theorem dX8_read_57 : decode cX8_read 57 = .ok (.invokevirtual 45, 3) := by decide +kernel
theorem dX8_read_60 : decode cX8_read 60 = .ok (.goto 30, 3) := by decide +kernel
theorem dX8_read_63 : decode cX8_read 63 = .ok (.aload_n 0, 1) := by decide +kernel
theorem dX8_read_64 : decode cX8_read 64 = .ok (.getfield 18, 3) := by decide +kernel
theorem dX8_read_67 : decode cX8_read 67 = .ok (.ldc 48, 2) := by decide +kernel
theorem dX8_read_69 : decode cX8_read 69 = .ok (.invokevirtual 41, 3) := by decide +kernel
theorem dX8_read_72 : decode cX8_read 72 = .ok (.ifCond .eq 10, 3) := by decide +kernel
theorem dX8_read_75 : decode cX8_read 75 = .ok (.aload_n 0, 1) := by decide +kernel
theorem dX8_read_76 : decode cX8_read 76 = .ok (.invokevirtual 50, 3) := by decide +kernel
theorem dX8_read_79 : decode cX8_read 79 = .ok (.goto 11, 3) := by decide +kernel
theorem dX8_read_82 : decode cX8_read 82 = .ok (.aload_n 0, 1) := by decide +kernel
theorem dX8_read_83 : decode cX8_read 83 = .ok (.getfield 18, 3) := by decide +kernel
theorem dX8_read_86 : decode cX8_read 86 = .ok (.iconst 1, 1) := by decide +kernel
theorem dX8_read_87 : decode cX8_read 87 = .ok (.invokevirtual 53, 3) := by decide +kernel
theorem dX8_read_90 : decode cX8_read 90 = .ok (.aload_n 0, 1) := by decide +kernel
theorem dX8_read_91 : decode cX8_read 91 = .ok (.getfield 12, 3) := by decide +kernel
theorem dX8_read_94 : decode cX8_read 94 = .ok (.invokevirtual 56, 3) := by decide +kernel
theorem dX8_read_97 : decode cX8_read 97 = .ok (.iinc 2 1, 3) := by decide +kernel
theorem dX8_read_100 : decode cX8_read 100 = .ok (.goto (-83), 3) := by decide +kernel
theorem dX8_read_103 : decode cX8_read 103 = .ok (.aload_n 0, 1) := by decide +kernel
theorem dX8_read_104 : decode cX8_read 104 = .ok (.getfield 18, 3) := by decide +kernel
theorem dX8_read_107 : decode cX8_read 107 = .ok (.getfield 59, 3) := by decide +kernel
theorem dX8_read_110 : decode cX8_read 110 = .ok (.ireturn, 1) := by decide +kernel
theorem dX8_readPerson_0 : decode cX8_readPerson 0 = .ok (.aload_n 0, 1) := by decide +kernel
theorem dX8_readPerson_1 : decode cX8_readPerson 1 = .ok (.getfield 12, 3) := by decide +kernel
theorem dX8_readPerson_4 : decode cX8_readPerson 4 = .ok (.getfield 62, 3) := by decide +kernel
theorem dX8_readPerson_7 : decode cX8_readPerson 7 = .ok (.bipush 16, 2) := by decide +kernel
theorem dX8_readPerson_9 : decode cX8_readPerson 9 = .ok (.if_icmp .lt 12, 3) := by decide +kernel
theorem dX8_readPerson_12 : decode cX8_readPerson 12 = .ok (.aload_n 0, 1) := by decide +kernel
theorem dX8_readPerson_13 : decode cX8_readPerson 13 = .ok (.getfield 18, 3) := by decide +kernel
theorem dX8_readPerson_16 : decode cX8_readPerson 16 = .ok (.iconst 3, 1) := by decide +kernel
theorem dX8_readPerson_17 : decode cX8_readPerson 17 = .ok (.invokevirtual 53, 3) := by decide +kernel
theorem dX8_readPerson_20 : decode cX8_readPerson 20 = .ok (.return_, 1) := by decide +kernel
theorem dX8_readPerson_21 : decode cX8_readPerson 21 = .ok (.aload_n 0, 1) := by decide +kernel
theorem dX8_readPerson_22 : decode cX8_readPerson 22 = .ok (.getfield 18, 3) := by decide +kernel
theorem dX8_readPerson_25 : decode cX8_readPerson 25 = .ok (.invokevirtual 65, 3) := by decide +kernel
theorem dX8_readPerson_28 : decode cX8_readPerson 28 = .ok (.aload_n 0, 1) := by decide +kernel
theorem dX8_readPerson_29 : decode cX8_readPerson 29 = .ok (.invokevirtual 68, 3) := by decide +kernel
theorem dX8_readPerson_32 : decode cX8_readPerson 32 = .ok (.aload_n 0, 1) := by decide +kernel
theorem dX8_readPerson_33 : decode cX8_readPerson 33 = .ok (.getfield 18, 3) := by decide +kernel
theorem dX8_readPerson_36 : decode cX8_readPerson 36 = .ok (.invokevirtual 31, 3) := by decide +kernel
theorem dX8_readPerson_39 : decode cX8_readPerson 39 = .ok (.ifCond .ne 4, 3) := by decide +kernel
theorem dX8_readPerson_42 : decode cX8_readPerson 42 = .ok (.return_, 1) := by decide +kernel
theorem dX8_readPerson_43 : decode cX8_readPerson 43 = .ok (.aload_n 0, 1) := by decide +kernel
theorem dX8_readPerson_44 : decode cX8_readPerson 44 = .ok (.getfield 12, 3) := by decide +kernel
theorem dX8_readPerson_47 : decode cX8_readPerson 47 = .ok (.invokevirtual 71, 3) := by decide +kernel
theorem dX8_readPerson_50 : decode cX8_readPerson 50 = .ok (.istore_n 1, 1) := by decide +kernel
theorem dX8_readPerson_51 : decode cX8_readPerson 51 = .ok (.iconst 0, 1) := by decide +kernel
theorem dX8_readPerson_52 : decode cX8_readPerson 52 = .ok (.istore_n 2, 1) := by decide +kernel
theorem dX8_readPerson_53 : decode cX8_readPerson 53 = .ok (.iload_n 2, 1) := by decide +kernel
theorem dX8_readPerson_54 : decode cX8_readPerson 54 = .ok (.aload_n 0, 1) := by decide +kernel
theorem dX8_readPerson_55 : decode cX8_readPerson 55 = .ok (.getfield 18, 3) := by decide +kernel
theorem dX8_readPerson_58 : decode cX8_readPerson 58 = .ok (.invokevirtual 75, 3) := by decide +kernel
theorem dX8_readPerson_61 : decode cX8_readPerson 61 = .ok (.if_icmp .ge 25, 3) := by decide +kernel
theorem dX8_readPerson_64 : decode cX8_readPerson 64 = .ok (.aload_n 0, 1) := by decide +kernel
theorem dX8_readPerson_65 : decode cX8_readPerson 65 = .ok (.getfield 12, 3) := by decide +kernel
theorem dX8_readPerson_68 : decode cX8_readPerson 68 = .ok (.iload_n 1, 1) := by decide +kernel
theorem dX8_readPerson_69 : decode cX8_readPerson 69 = .ok (.aload_n 0, 1) := by decide +kernel
theorem dX8_readPerson_70 : decode cX8_readPerson 70 = .ok (.getfield 18, 3) := by decide +kernel
theorem dX8_readPerson_73 : decode cX8_readPerson 73 = .ok (.iload_n 2, 1) := by decide +kernel
theorem dX8_readPerson_74 : decode cX8_readPerson 74 = .ok (.invokevirtual 78, 3) := by decide +kernel
theorem dX8_readPerson_77 : decode cX8_readPerson 77 = .ok (.invokevirtual 82, 3) := by decide +kernel
theorem dX8_readPerson_80 : decode cX8_readPerson 80 = .ok (.iinc 2 1, 3) := by decide +kernel
theorem dX8_readPerson_83 : decode cX8_readPerson 83 = .ok (.goto (-30), 3) := by decide +kernel
theorem dX8_readPerson_86 : decode cX8_readPerson 86 = .ok (.aload_n 0, 1) := by decide +kernel
theorem dX8_readPerson_87 : decode cX8_readPerson 87 = .ok (.getfield 18, 3) := by decide +kernel
theorem dX8_readPerson_90 : decode cX8_readPerson 90 = .ok (.invokevirtual 65, 3) := by decide +kernel
theorem dX8_readPerson_93 : decode cX8_readPerson 93 = .ok (.aload_n 0, 1) := by decide +kernel
theorem dX8_readPerson_94 : decode cX8_readPerson 94 = .ok (.getfield 12, 3) := by decide +kernel
theorem dX8_readPerson_97 : decode cX8_readPerson 97 = .ok (.getfield 86, 3) := by decide +kernel
theorem dX8_readPerson_100 : decode cX8_readPerson 100 = .ok (.iload_n 1, 1) := by decide +kernel
theorem dX8_readPerson_101 : decode cX8_readPerson 101 = .ok (.aload_n 0, 1) := by decide +kernel
theorem dX8_readPerson_102 : decode cX8_readPerson 102 = .ok (.invokevirtual 90, 3) := by decide +kernel
theorem dX8_readPerson_105 : decode cX8_readPerson 105 = .ok (.invokestatic 93, 3) := by decide +kernel
theorem dX8_readPerson_108 : decode cX8_readPerson 108 = .ok (.aload_n 0, 1) := by decide +kernel
theorem dX8_readPerson_109 : decode cX8_readPerson 109 = .ok (.invokevirtual 97, 3) := by decide +kernel
theorem dX8_readPerson_112 : decode cX8_readPerson 112 = .ok (.return_, 1) := by decide +kernel
theorem dX8_checkNewName_0 : decode cX8_checkNewName 0 = .ok (.aload_n 0, 1) := by decide +kernel
theorem dX8_checkNewName_1 : decode cX8_checkNewName 1 = .ok (.getfield 18, 3) := by decide +kernel
theorem dX8_checkNewName_4 : decode cX8_checkNewName 4 = .ok (.getfield 35, 3) := by decide +kernel
theorem dX8_checkNewName_7 : decode cX8_checkNewName 7 = .ok (.iconst 1, 1) := by decide +kernel
theorem dX8_checkNewName_8 : decode cX8_checkNewName 8 = .ok (.if_icmp .ne 15, 3) := by decide +kernel
theorem dX8_checkNewName_11 : decode cX8_checkNewName 11 = .ok (.aload_n 0, 1) := by decide +kernel
theorem dX8_checkNewName_12 : decode cX8_checkNewName 12 = .ok (.getfield 18, 3) := by decide +kernel
theorem dX8_checkNewName_15 : decode cX8_checkNewName 15 = .ok (.invokevirtual 75, 3) := by decide +kernel
theorem dX8_checkNewName_18 : decode cX8_checkNewName 18 = .ok (.bipush 8, 2) := by decide +kernel
theorem dX8_checkNewName_20 : decode cX8_checkNewName 20 = .ok (.if_icmp .le 14, 3) := by decide +kernel
theorem dX8_checkNewName_23 : decode cX8_checkNewName 23 = .ok (.aload_n 0, 1) := by decide +kernel
theorem dX8_checkNewName_24 : decode cX8_checkNewName 24 = .ok (.getfield 18, 3) := by decide +kernel
theorem dX8_checkNewName_27 : decode cX8_checkNewName 27 = .ok (.iconst 1, 1) := by decide +kernel
theorem dX8_checkNewName_28 : decode cX8_checkNewName 28 = .ok (.invokevirtual 53, 3) := by decide +kernel
theorem dX8_checkNewName_31 : decode cX8_checkNewName 31 = .ok (.goto 19, 3) := by decide +kernel
theorem dX8_checkNewName_34 : decode cX8_checkNewName 34 = .ok (.aload_n 0, 1) := by decide +kernel
theorem dX8_checkNewName_35 : decode cX8_checkNewName 35 = .ok (.invokevirtual 100, 3) := by decide +kernel
theorem dX8_checkNewName_38 : decode cX8_checkNewName 38 = .ok (.iconst (-1), 1) := by decide +kernel
theorem dX8_checkNewName_39 : decode cX8_checkNewName 39 = .ok (.if_icmp .eq 11, 3) := by decide +kernel
theorem dX8_checkNewName_42 : decode cX8_checkNewName 42 = .ok (.aload_n 0, 1) := by decide +kernel
theorem dX8_checkNewName_43 : decode cX8_checkNewName 43 = .ok (.getfield 18, 3) := by decide +kernel
theorem dX8_checkNewName_46 : decode cX8_checkNewName 46 = .ok (.iconst 4, 1) := by decide +kernel
theorem dX8_checkNewName_47 : decode cX8_checkNewName 47 = .ok (.invokevirtual 53, 3) := by decide +kernel
theorem dX8_checkNewName_50 : decode cX8_checkNewName 50 = .ok (.return_, 1) := by decide +kernel
theorem dX8_readUnion_0 : decode cX8_readUnion 0 = .ok (.aload_n 0, 1) := by decide +kernel
theorem dX8_readUnion_1 : decode cX8_readUnion 1 = .ok (.getfield 12, 3) := by decide +kernel
theorem dX8_readUnion_4 : decode cX8_readUnion 4 = .ok (.getfield 103, 3) := by decide +kernel
theorem dX8_readUnion_7 : decode cX8_readUnion 7 = .ok (.bipush 12, 2) := by decide +kernel
theorem dX8_readUnion_9 : decode cX8_readUnion 9 = .ok (.if_icmp .lt 12, 3) := by decide +kernel
theorem dX8_readUnion_12 : decode cX8_readUnion 12 = .ok (.aload_n 0, 1) := by decide +kernel
theorem dX8_readUnion_13 : decode cX8_readUnion 13 = .ok (.getfield 18, 3) := by decide +kernel
theorem dX8_readUnion_16 : decode cX8_readUnion 16 = .ok (.iconst 3, 1) := by decide +kernel
theorem dX8_readUnion_17 : decode cX8_readUnion 17 = .ok (.invokevirtual 53, 3) := by decide +kernel
theorem dX8_readUnion_20 : decode cX8_readUnion 20 = .ok (.return_, 1) := by decide +kernel
theorem dX8_readUnion_21 : decode cX8_readUnion 21 = .ok (.aload_n 0, 1) := by decide +kernel
theorem dX8_readUnion_22 : decode cX8_readUnion 22 = .ok (.getfield 18, 3) := by decide +kernel
theorem dX8_readUnion_25 : decode cX8_readUnion 25 = .ok (.invokevirtual 65, 3) := by decide +kernel
theorem dX8_readUnion_28 : decode cX8_readUnion 28 = .ok (.aload_n 0, 1) := by decide +kernel
theorem dX8_readUnion_29 : decode cX8_readUnion 29 = .ok (.invokevirtual 106, 3) := by decide +kernel
theorem dX8_readUnion_32 : decode cX8_readUnion 32 = .ok (.istore_n 1, 1) := by decide +kernel
theorem dX8_readUnion_33 : decode cX8_readUnion 33 = .ok (.aload_n 0, 1) := by decide +kernel
theorem dX8_readUnion_34 : decode cX8_readUnion 34 = .ok (.getfield 18, 3) := by decide +kernel
theorem dX8_readUnion_37 : decode cX8_readUnion 37 = .ok (.invokevirtual 65, 3) := by decide +kernel
theorem dX8_readUnion_40 : decode cX8_readUnion 40 = .ok (.aload_n 0, 1) := by decide +kernel
theorem dX8_readUnion_41 : decode cX8_readUnion 41 = .ok (.invokevirtual 106, 3) := by decide +kernel
theorem dX8_readUnion_44 : decode cX8_readUnion 44 = .ok (.istore_n 2, 1) := by decide +kernel
theorem dX8_readUnion_45 : decode cX8_readUnion 45 = .ok (.aload_n 0, 1) := by decide +kernel
theorem dX8_readUnion_46 : decode cX8_readUnion 46 = .ok (.iload_n 1, 1) := by decide +kernel
theorem dX8_readUnion_47 : decode cX8_readUnion 47 = .ok (.iload_n 2, 1) := by decide +kernel
theorem dX8_readUnion_48 : decode cX8_readUnion 48 = .ok (.invokevirtual 109, 3) := by decide +kernel
theorem dX8_readUnion_51 : decode cX8_readUnion 51 = .ok (.aload_n 0, 1) := by decide +kernel
theorem dX8_readUnion_52 : decode cX8_readUnion 52 = .ok (.getfield 18, 3) := by decide +kernel
theorem dX8_readUnion_55 : decode cX8_readUnion 55 = .ok (.invokevirtual 65, 3) := by decide +kernel
theorem dX8_readUnion_58 : decode cX8_readUnion 58 = .ok (.aload_n 0, 1) := by decide +kernel
theorem dX8_readUnion_59 : decode cX8_readUnion 59 = .ok (.invokevirtual 90, 3) := by decide +kernel
theorem dX8_readUnion_62 : decode cX8_readUnion 62 = .ok (.istore_n 3, 1) := by decide +kernel
theorem dX8_readUnion_63 : decode cX8_readUnion 63 = .ok (.aload_n 0, 1) := by decide +kernel
theorem dX8_readUnion_64 : decode cX8_readUnion 64 = .ok (.getfield 18, 3) := by decide +kernel
theorem dX8_readUnion_67 : decode cX8_readUnion 67 = .ok (.invokevirtual 31, 3) := by decide +kernel
theorem dX8_readUnion_70 : decode cX8_readUnion 70 = .ok (.ifCond .ne 4, 3) := by decide +kernel
theorem dX8_readUnion_73 : decode cX8_readUnion 73 = .ok (.return_, 1) := by decide +kernel
theorem dX8_readUnion_74 : decode cX8_readUnion 74 = .ok (.aload_n 0, 1) := by decide +kernel
theorem dX8_readUnion_75 : decode cX8_readUnion 75 = .ok (.getfield 12, 3) := by decide +kernel
theorem dX8_readUnion_78 : decode cX8_readUnion 78 = .ok (.iload_n 1, 1) := by decide +kernel
theorem dX8_readUnion_79 : decode cX8_readUnion 79 = .ok (.iload_n 2, 1) := by decide +kernel
theorem dX8_readUnion_80 : decode cX8_readUnion 80 = .ok (.iload_n 3, 1) := by decide +kernel
theorem dX8_readUnion_81 : decode cX8_readUnion 81 = .ok (.invokevirtual 112, 3) := by decide +kernel
theorem dX8_readUnion_84 : decode cX8_readUnion 84 = .ok (.istore 4, 2) := by decide +kernel
theorem dX8_readUnion_86 : decode cX8_readUnion 86 = .ok (.iconst 0, 1) := by decide +kernel
theorem dX8_readUnion_87 : decode cX8_readUnion 87 = .ok (.istore 5, 2) := by decide +kernel
theorem dX8_readUnion_89 : decode cX8_readUnion 89 = .ok (.iload 5, 2) := by decide +kernel
theorem dX8_readUnion_91 : decode cX8_readUnion 91 = .ok (.sipush 800, 3) := by decide +kernel
theorem dX8_readUnion_94 : decode cX8_readUnion 94 = .ok (.if_icmp .ge 36, 3) := by decide +kernel
theorem dX8_readUnion_97 : decode cX8_readUnion 97 = .ok (.aload_n 0, 1) := by decide +kernel
theorem dX8_readUnion_98 : decode cX8_readUnion 98 = .ok (.getfield 18, 3) := by decide +kernel
theorem dX8_readUnion_101 : decode cX8_readUnion 101 = .ok (.invokevirtual 31, 3) := by decide +kernel
theorem dX8_readUnion_104 : decode cX8_readUnion 104 = .ok (.ifCond .eq 26, 3) := by decide +kernel
theorem dX8_readUnion_107 : decode cX8_readUnion 107 = .ok (.aload_n 0, 1) := by decide +kernel
theorem dX8_readUnion_108 : decode cX8_readUnion 108 = .ok (.getfield 18, 3) := by decide +kernel
theorem dX8_readUnion_111 : decode cX8_readUnion 111 = .ok (.getfield 35, 3) := by decide +kernel
theorem dX8_readUnion_114 : decode cX8_readUnion 114 = .ok (.iconst 1, 1) := by decide +kernel
theorem dX8_readUnion_115 : decode cX8_readUnion 115 = .ok (.if_icmp .ne 15, 3) := by decide +kernel
theorem dX8_readUnion_118 : decode cX8_readUnion 118 = .ok (.aload_n 0, 1) := by decide +kernel
theorem dX8_readUnion_119 : decode cX8_readUnion 119 = .ok (.iload 4, 2) := by decide +kernel
theorem dX8_readUnion_121 : decode cX8_readUnion 121 = .ok (.invokevirtual 116, 3) := by decide +kernel
theorem dX8_readUnion_124 : decode cX8_readUnion 124 = .ok (.iinc 5 1, 3) := by decide +kernel
theorem dX8_readUnion_127 : decode cX8_readUnion 127 = .ok (.goto (-38), 3) := by decide +kernel
theorem dX8_readUnion_130 : decode cX8_readUnion 130 = .ok (.aload_n 0, 1) := by decide +kernel
theorem dX8_readUnion_131 : decode cX8_readUnion 131 = .ok (.invokevirtual 97, 3) := by decide +kernel
theorem dX8_readUnion_134 : decode cX8_readUnion 134 = .ok (.return_, 1) := by decide +kernel
theorem dX8_checkPair_0 : decode cX8_checkPair 0 = .ok (.iload_n 1, 1) := by decide +kernel
theorem dX8_checkPair_1 : decode cX8_checkPair 1 = .ok (.iload_n 2, 1) := by decide +kernel
theorem dX8_checkPair_2 : decode cX8_checkPair 2 = .ok (.if_icmp .eq 16, 3) := by decide +kernel
theorem dX8_checkPair_5 : decode cX8_checkPair 5 = .ok (.aload_n 0, 1) := by decide +kernel
theorem dX8_checkPair_6 : decode cX8_checkPair 6 = .ok (.getfield 12, 3) := by decide +kernel
theorem dX8_checkPair_9 : decode cX8_checkPair 9 = .ok (.iload_n 1, 1) := by decide +kernel
theorem dX8_checkPair_10 : decode cX8_checkPair 10 = .ok (.iload_n 2, 1) := by decide +kernel
theorem dX8_checkPair_11 : decode cX8_checkPair 11 = .ok (.invokevirtual 119, 3) := by decide +kernel
theorem dX8_checkPair_14 : decode cX8_checkPair 14 = .ok (.iconst (-1), 1) := by decide +kernel
theorem dX8_checkPair_15 : decode cX8_checkPair 15 = .ok (.if_icmp .eq 11, 3) := by decide +kernel
theorem dX8_checkPair_18 : decode cX8_checkPair 18 = .ok (.aload_n 0, 1) := by decide +kernel
theorem dX8_checkPair_19 : decode cX8_checkPair 19 = .ok (.getfield 18, 3) := by decide +kernel
theorem dX8_checkPair_22 : decode cX8_checkPair 22 = .ok (.iconst 5, 1) := by decide +kernel
theorem dX8_checkPair_23 : decode cX8_checkPair 23 = .ok (.invokevirtual 53, 3) := by decide +kernel
theorem dX8_checkPair_26 : decode cX8_checkPair 26 = .ok (.return_, 1) := by decide +kernel
theorem dX8_readChild_0 : decode cX8_readChild 0 = .ok (.aload_n 0, 1) := by decide +kernel
theorem dX8_readChild_1 : decode cX8_readChild 1 = .ok (.invokevirtual 106, 3) := by decide +kernel
theorem dX8_readChild_4 : decode cX8_readChild 4 = .ok (.istore_n 2, 1) := by decide +kernel
theorem dX8_readChild_5 : decode cX8_readChild 5 = .ok (.aload_n 0, 1) := by decide +kernel
theorem dX8_readChild_6 : decode cX8_readChild 6 = .ok (.getfield 18, 3) := by decide +kernel
theorem dX8_readChild_9 : decode cX8_readChild 9 = .ok (.invokevirtual 31, 3) := by decide +kernel
theorem dX8_readChild_12 : decode cX8_readChild 12 = .ok (.ifCond .ne 4, 3) := by decide +kernel
theorem dX8_readChild_15 : decode cX8_readChild 15 = .ok (.return_, 1) := by decide +kernel
theorem dX8_readChild_16 : decode cX8_readChild 16 = .ok (.aload_n 0, 1) := by decide +kernel
theorem dX8_readChild_17 : decode cX8_readChild 17 = .ok (.getfield 12, 3) := by decide +kernel
theorem dX8_readChild_20 : decode cX8_readChild 20 = .ok (.iload_n 2, 1) := by decide +kernel
theorem dX8_readChild_21 : decode cX8_readChild 21 = .ok (.invokevirtual 123, 3) := by decide +kernel
theorem dX8_readChild_24 : decode cX8_readChild 24 = .ok (.ifCond .ne 15, 3) := by decide +kernel
theorem dX8_readChild_27 : decode cX8_readChild 27 = .ok (.aload_n 0, 1) := by decide +kernel
theorem dX8_readChild_28 : decode cX8_readChild 28 = .ok (.getfield 12, 3) := by decide +kernel
theorem dX8_readChild_31 : decode cX8_readChild 31 = .ok (.iload_n 1, 1) := by decide +kernel
theorem dX8_readChild_32 : decode cX8_readChild 32 = .ok (.iload_n 2, 1) := by decide +kernel
theorem dX8_readChild_33 : decode cX8_readChild 33 = .ok (.invokevirtual 127, 3) := by decide +kernel
theorem dX8_readChild_36 : decode cX8_readChild 36 = .ok (.ifCond .eq 12, 3) := by decide +kernel
theorem dX8_readChild_39 : decode cX8_readChild 39 = .ok (.aload_n 0, 1) := by decide +kernel
theorem dX8_readChild_40 : decode cX8_readChild 40 = .ok (.getfield 18, 3) := by decide +kernel
theorem dX8_readChild_43 : decode cX8_readChild 43 = .ok (.iconst 5, 1) := by decide +kernel
theorem dX8_readChild_44 : decode cX8_readChild 44 = .ok (.invokevirtual 53, 3) := by decide +kernel
theorem dX8_readChild_47 : decode cX8_readChild 47 = .ok (.return_, 1) := by decide +kernel
theorem dX8_readChild_48 : decode cX8_readChild 48 = .ok (.aload_n 0, 1) := by decide +kernel
theorem dX8_readChild_49 : decode cX8_readChild 49 = .ok (.getfield 12, 3) := by decide +kernel
theorem dX8_readChild_52 : decode cX8_readChild 52 = .ok (.getfield 131, 3) := by decide +kernel
theorem dX8_readChild_55 : decode cX8_readChild 55 = .ok (.iload_n 2, 1) := by decide +kernel
theorem dX8_readChild_56 : decode cX8_readChild 56 = .ok (.iload_n 1, 1) := by decide +kernel
theorem dX8_readChild_57 : decode cX8_readChild 57 = .ok (.invokestatic 93, 3) := by decide +kernel
theorem dX8_readChild_60 : decode cX8_readChild 60 = .ok (.aload_n 0, 1) := by decide +kernel
theorem dX8_readChild_61 : decode cX8_readChild 61 = .ok (.getfield 18, 3) := by decide +kernel
theorem dX8_readChild_64 : decode cX8_readChild 64 = .ok (.invokevirtual 65, 3) := by decide +kernel
theorem dX8_readChild_67 : decode cX8_readChild 67 = .ok (.return_, 1) := by decide +kernel
theorem dX8_checkedPerson_0 : decode cX8_checkedPerson 0 = .ok (.aload_n 0, 1) := by decide +kernel
theorem dX8_checkedPerson_1 : decode cX8_checkedPerson 1 = .ok (.getfield 18, 3) := by decide +kernel
theorem dX8_checkedPerson_4 : decode cX8_checkedPerson 4 = .ok (.getfield 35, 3) := by decide +kernel
theorem dX8_checkedPerson_7 : decode cX8_checkedPerson 7 = .ok (.iconst 1, 1) := by decide +kernel
theorem dX8_checkedPerson_8 : decode cX8_checkedPerson 8 = .ok (.if_icmp .eq 13, 3) := by decide +kernel
theorem dX8_checkedPerson_11 : decode cX8_checkedPerson 11 = .ok (.aload_n 0, 1) := by decide +kernel
theorem dX8_checkedPerson_12 : decode cX8_checkedPerson 12 = .ok (.getfield 18, 3) := by decide +kernel
theorem dX8_checkedPerson_15 : decode cX8_checkedPerson 15 = .ok (.iconst 1, 1) := by decide +kernel
theorem dX8_checkedPerson_16 : decode cX8_checkedPerson 16 = .ok (.invokevirtual 53, 3) := by decide +kernel
theorem dX8_checkedPerson_19 : decode cX8_checkedPerson 19 = .ok (.iconst (-1), 1) := by decide +kernel
theorem dX8_checkedPerson_20 : decode cX8_checkedPerson 20 = .ok (.ireturn, 1) := by decide +kernel
theorem dX8_checkedPerson_21 : decode cX8_checkedPerson 21 = .ok (.aload_n 0, 1) := by decide +kernel
theorem dX8_checkedPerson_22 : decode cX8_checkedPerson 22 = .ok (.invokevirtual 100, 3) := by decide +kernel
theorem dX8_checkedPerson_25 : decode cX8_checkedPerson 25 = .ok (.istore_n 1, 1) := by decide +kernel
theorem dX8_checkedPerson_26 : decode cX8_checkedPerson 26 = .ok (.iload_n 1, 1) := by decide +kernel
theorem dX8_checkedPerson_27 : decode cX8_checkedPerson 27 = .ok (.iconst (-1), 1) := by decide +kernel
theorem dX8_checkedPerson_28 : decode cX8_checkedPerson 28 = .ok (.if_icmp .ne 11, 3) := by decide +kernel
theorem dX8_checkedPerson_31 : decode cX8_checkedPerson 31 = .ok (.aload_n 0, 1) := by decide +kernel
theorem dX8_checkedPerson_32 : decode cX8_checkedPerson 32 = .ok (.getfield 18, 3) := by decide +kernel
theorem dX8_checkedPerson_35 : decode cX8_checkedPerson 35 = .ok (.iconst 4, 1) := by decide +kernel
theorem dX8_checkedPerson_36 : decode cX8_checkedPerson 36 = .ok (.invokevirtual 53, 3) := by decide +kernel
theorem dX8_checkedPerson_39 : decode cX8_checkedPerson 39 = .ok (.iload_n 1, 1) := by decide +kernel
theorem dX8_checkedPerson_40 : decode cX8_checkedPerson 40 = .ok (.ireturn, 1) := by decide +kernel
theorem dX8_personNamed_0 : decode cX8_personNamed 0 = .ok (.iconst 0, 1) := by decide +kernel
theorem dX8_personNamed_1 : decode cX8_personNamed 1 = .ok (.istore_n 1, 1) := by decide +kernel
theorem dX8_personNamed_2 : decode cX8_personNamed 2 = .ok (.iload_n 1, 1) := by decide +kernel
theorem dX8_personNamed_3 : decode cX8_personNamed 3 = .ok (.aload_n 0, 1) := by decide +kernel
theorem dX8_personNamed_4 : decode cX8_personNamed 4 = .ok (.getfield 12, 3) := by decide +kernel
theorem dX8_personNamed_7 : decode cX8_personNamed 7 = .ok (.getfield 62, 3) := by decide +kernel
theorem dX8_personNamed_10 : decode cX8_personNamed 10 = .ok (.if_icmp .ge 43, 3) := by decide +kernel
theorem dX8_personNamed_13 : decode cX8_personNamed 13 = .ok (.aload_n 0, 1) := by decide +kernel
theorem dX8_personNamed_14 : decode cX8_personNamed 14 = .ok (.getfield 18, 3) := by decide +kernel
theorem dX8_personNamed_17 : decode cX8_personNamed 17 = .ok (.aload_n 0, 1) := by decide +kernel
theorem dX8_personNamed_18 : decode cX8_personNamed 18 = .ok (.getfield 12, 3) := by decide +kernel
theorem dX8_personNamed_21 : decode cX8_personNamed 21 = .ok (.getfield 134, 3) := by decide +kernel
theorem dX8_personNamed_24 : decode cX8_personNamed 24 = .ok (.iload_n 1, 1) := by decide +kernel
theorem dX8_personNamed_25 : decode cX8_personNamed 25 = .ok (.bipush 8, 2) := by decide +kernel
theorem dX8_personNamed_27 : decode cX8_personNamed 27 = .ok (.imul, 1) := by decide +kernel
theorem dX8_personNamed_28 : decode cX8_personNamed 28 = .ok (.aload_n 0, 1) := by decide +kernel
theorem dX8_personNamed_29 : decode cX8_personNamed 29 = .ok (.getfield 12, 3) := by decide +kernel
theorem dX8_personNamed_32 : decode cX8_personNamed 32 = .ok (.getfield 137, 3) := by decide +kernel
theorem dX8_personNamed_35 : decode cX8_personNamed 35 = .ok (.iload_n 1, 1) := by decide +kernel
theorem dX8_personNamed_36 : decode cX8_personNamed 36 = .ok (.invokestatic 140, 3) := by decide +kernel
theorem dX8_personNamed_39 : decode cX8_personNamed 39 = .ok (.invokevirtual 144, 3) := by decide +kernel
theorem dX8_personNamed_42 : decode cX8_personNamed 42 = .ok (.ifCond .eq 5, 3) := by decide +kernel
theorem dX8_personNamed_45 : decode cX8_personNamed 45 = .ok (.iload_n 1, 1) := by decide +kernel
theorem dX8_personNamed_46 : decode cX8_personNamed 46 = .ok (.ireturn, 1) := by decide +kernel
theorem dX8_personNamed_47 : decode cX8_personNamed 47 = .ok (.iinc 1 1, 3) := by decide +kernel
theorem dX8_personNamed_50 : decode cX8_personNamed 50 = .ok (.goto (-48), 3) := by decide +kernel
theorem dX8_personNamed_53 : decode cX8_personNamed 53 = .ok (.iconst (-1), 1) := by decide +kernel
theorem dX8_personNamed_54 : decode cX8_personNamed 54 = .ok (.ireturn, 1) := by decide +kernel
theorem dX8_readYear_0 : decode cX8_readYear 0 = .ok (.aload_n 0, 1) := by decide +kernel
theorem dX8_readYear_1 : decode cX8_readYear 1 = .ok (.getfield 18, 3) := by decide +kernel
theorem dX8_readYear_4 : decode cX8_readYear 4 = .ok (.getfield 148, 3) := by decide +kernel
theorem dX8_readYear_7 : decode cX8_readYear 7 = .ok (.istore_n 1, 1) := by decide +kernel
theorem dX8_readYear_8 : decode cX8_readYear 8 = .ok (.aload_n 0, 1) := by decide +kernel
theorem dX8_readYear_9 : decode cX8_readYear 9 = .ok (.getfield 18, 3) := by decide +kernel
theorem dX8_readYear_12 : decode cX8_readYear 12 = .ok (.getfield 35, 3) := by decide +kernel
theorem dX8_readYear_15 : decode cX8_readYear 15 = .ok (.iconst 2, 1) := by decide +kernel
theorem dX8_readYear_16 : decode cX8_readYear 16 = .ok (.if_icmp .eq 14, 3) := by decide +kernel
theorem dX8_readYear_19 : decode cX8_readYear 19 = .ok (.aload_n 0, 1) := by decide +kernel
theorem dX8_readYear_20 : decode cX8_readYear 20 = .ok (.getfield 18, 3) := by decide +kernel
theorem dX8_readYear_23 : decode cX8_readYear 23 = .ok (.iconst 1, 1) := by decide +kernel
theorem dX8_readYear_24 : decode cX8_readYear 24 = .ok (.invokevirtual 53, 3) := by decide +kernel
theorem dX8_readYear_27 : decode cX8_readYear 27 = .ok (.goto 18, 3) := by decide +kernel
theorem dX8_readYear_30 : decode cX8_readYear 30 = .ok (.iload_n 1, 1) := by decide +kernel
theorem dX8_readYear_31 : decode cX8_readYear 31 = .ok (.sipush 2100, 3) := by decide +kernel
theorem dX8_readYear_34 : decode cX8_readYear 34 = .ok (.if_icmp .le 11, 3) := by decide +kernel
theorem dX8_readYear_37 : decode cX8_readYear 37 = .ok (.aload_n 0, 1) := by decide +kernel
theorem dX8_readYear_38 : decode cX8_readYear 38 = .ok (.getfield 18, 3) := by decide +kernel
theorem dX8_readYear_41 : decode cX8_readYear 41 = .ok (.iconst 2, 1) := by decide +kernel
theorem dX8_readYear_42 : decode cX8_readYear 42 = .ok (.invokevirtual 53, 3) := by decide +kernel
theorem dX8_readYear_45 : decode cX8_readYear 45 = .ok (.aload_n 0, 1) := by decide +kernel
theorem dX8_readYear_46 : decode cX8_readYear 46 = .ok (.getfield 18, 3) := by decide +kernel
theorem dX8_readYear_49 : decode cX8_readYear 49 = .ok (.invokevirtual 65, 3) := by decide +kernel
theorem dX8_readYear_52 : decode cX8_readYear 52 = .ok (.iload_n 1, 1) := by decide +kernel
theorem dX8_readYear_53 : decode cX8_readYear 53 = .ok (.ireturn, 1) := by decide +kernel
theorem dX8_readSemicolon_0 : decode cX8_readSemicolon 0 = .ok (.aload_n 0, 1) := by decide +kernel
theorem dX8_readSemicolon_1 : decode cX8_readSemicolon 1 = .ok (.getfield 18, 3) := by decide +kernel
theorem dX8_readSemicolon_4 : decode cX8_readSemicolon 4 = .ok (.bipush 59, 2) := by decide +kernel
theorem dX8_readSemicolon_6 : decode cX8_readSemicolon 6 = .ok (.invokevirtual 151, 3) := by decide +kernel
theorem dX8_readSemicolon_9 : decode cX8_readSemicolon 9 = .ok (.ifCond .ne 11, 3) := by decide +kernel
theorem dX8_readSemicolon_12 : decode cX8_readSemicolon 12 = .ok (.aload_n 0, 1) := by decide +kernel
theorem dX8_readSemicolon_13 : decode cX8_readSemicolon 13 = .ok (.getfield 18, 3) := by decide +kernel
theorem dX8_readSemicolon_16 : decode cX8_readSemicolon 16 = .ok (.iconst 1, 1) := by decide +kernel
theorem dX8_readSemicolon_17 : decode cX8_readSemicolon 17 = .ok (.invokevirtual 53, 3) := by decide +kernel
theorem dX8_readSemicolon_20 : decode cX8_readSemicolon 20 = .ok (.aload_n 0, 1) := by decide +kernel
theorem dX8_readSemicolon_21 : decode cX8_readSemicolon 21 = .ok (.getfield 18, 3) := by decide +kernel
theorem dX8_readSemicolon_24 : decode cX8_readSemicolon 24 = .ok (.invokevirtual 65, 3) := by decide +kernel
theorem dX8_readSemicolon_27 : decode cX8_readSemicolon 27 = .ok (.return_, 1) := by decide +kernel
theorem dX9_init_0 : decode cX9_init 0 = .ok (.aload_n 0, 1) := by decide +kernel
theorem dX9_init_1 : decode cX9_init 1 = .ok (.invokespecial 3, 3) := by decide +kernel
theorem dX9_init_4 : decode cX9_init 4 = .ok (.aload_n 0, 1) := by decide +kernel
theorem dX9_init_5 : decode cX9_init 5 = .ok (.new 9, 3) := by decide +kernel
theorem dX9_init_8 : decode cX9_init 8 = .ok (.dup, 1) := by decide +kernel
theorem dX9_init_9 : decode cX9_init 9 = .ok (.invokespecial 11, 3) := by decide +kernel
theorem dX9_init_12 : decode cX9_init 12 = .ok (.putfield 12, 3) := by decide +kernel
theorem dX9_init_15 : decode cX9_init 15 = .ok (.aload_n 0, 1) := by decide +kernel
theorem dX9_init_16 : decode cX9_init 16 = .ok (.new 16, 3) := by decide +kernel
theorem dX9_init_19 : decode cX9_init 19 = .ok (.dup, 1) := by decide +kernel
theorem dX9_init_20 : decode cX9_init 20 = .ok (.invokespecial 18, 3) := by decide +kernel
theorem dX9_init_23 : decode cX9_init 23 = .ok (.putfield 19, 3) := by decide +kernel
theorem dX9_init_26 : decode cX9_init 26 = .ok (.aload_n 0, 1) := by decide +kernel
theorem dX9_init_27 : decode cX9_init 27 = .ok (.new 23, 3) := by decide +kernel
theorem dX9_init_30 : decode cX9_init 30 = .ok (.dup, 1) := by decide +kernel
theorem dX9_init_31 : decode cX9_init 31 = .ok (.aload_n 0, 1) := by decide +kernel
theorem dX9_init_32 : decode cX9_init 32 = .ok (.getfield 19, 3) := by decide +kernel
theorem dX9_init_35 : decode cX9_init 35 = .ok (.invokespecial 25, 3) := by decide +kernel
theorem dX9_init_38 : decode cX9_init 38 = .ok (.putfield 28, 3) := by decide +kernel
theorem dX9_init_41 : decode cX9_init 41 = .ok (.aload_n 0, 1) := by decide +kernel
theorem dX9_init_42 : decode cX9_init 42 = .ok (.new 32, 3) := by decide +kernel
theorem dX9_init_45 : decode cX9_init 45 = .ok (.dup, 1) := by decide +kernel
theorem dX9_init_46 : decode cX9_init 46 = .ok (.aload_n 0, 1) := by decide +kernel
theorem dX9_init_47 : decode cX9_init 47 = .ok (.getfield 19, 3) := by decide +kernel
theorem dX9_init_50 : decode cX9_init 50 = .ok (.invokespecial 34, 3) := by decide +kernel
theorem dX9_init_53 : decode cX9_init 53 = .ok (.putfield 35, 3) := by decide +kernel
theorem dX9_init_56 : decode cX9_init 56 = .ok (.aload_n 0, 1) := by decide +kernel
theorem dX9_init_57 : decode cX9_init 57 = .ok (.new 39, 3) := by decide +kernel
theorem dX9_init_60 : decode cX9_init 60 = .ok (.dup, 1) := by decide +kernel
theorem dX9_init_61 : decode cX9_init 61 = .ok (.aload_n 0, 1) := by decide +kernel
theorem dX9_init_62 : decode cX9_init 62 = .ok (.getfield 19, 3) := by decide +kernel
theorem dX9_init_65 : decode cX9_init 65 = .ok (.aload_n 0, 1) := by decide +kernel
theorem dX9_init_66 : decode cX9_init 66 = .ok (.getfield 35, 3) := by decide +kernel
theorem dX9_init_69 : decode cX9_init 69 = .ok (.invokespecial 41, 3) := by decide +kernel
theorem dX9_init_72 : decode cX9_init 72 = .ok (.putfield 44, 3) := by decide +kernel
theorem dX9_init_75 : decode cX9_init 75 = .ok (.aload_n 0, 1) := by decide +kernel
theorem dX9_init_76 : decode cX9_init 76 = .ok (.new 48, 3) := by decide +kernel
theorem dX9_init_79 : decode cX9_init 79 = .ok (.dup, 1) := by decide +kernel
theorem dX9_init_80 : decode cX9_init 80 = .ok (.aload_n 0, 1) := by decide +kernel
theorem dX9_init_81 : decode cX9_init 81 = .ok (.getfield 19, 3) := by decide +kernel
theorem dX9_init_84 : decode cX9_init 84 = .ok (.aload_n 0, 1) := by decide +kernel
theorem dX9_init_85 : decode cX9_init 85 = .ok (.getfield 35, 3) := by decide +kernel
theorem dX9_init_88 : decode cX9_init 88 = .ok (.aload_n 0, 1) := by decide +kernel
theorem dX9_init_89 : decode cX9_init 89 = .ok (.getfield 44, 3) := by decide +kernel
theorem dX9_init_92 : decode cX9_init 92 = .ok (.invokespecial 50, 3) := by decide +kernel
theorem dX9_init_95 : decode cX9_init 95 = .ok (.putfield 53, 3) := by decide +kernel
theorem dX9_init_98 : decode cX9_init 98 = .ok (.aload_n 0, 1) := by decide +kernel
theorem dX9_init_99 : decode cX9_init 99 = .ok (.new 57, 3) := by decide +kernel
theorem dX9_init_102 : decode cX9_init 102 = .ok (.dup, 1) := by decide +kernel
theorem dX9_init_103 : decode cX9_init 103 = .ok (.aload_n 0, 1) := by decide +kernel
theorem dX9_init_104 : decode cX9_init 104 = .ok (.getfield 19, 3) := by decide +kernel
theorem dX9_init_107 : decode cX9_init 107 = .ok (.aload_n 0, 1) := by decide +kernel
theorem dX9_init_108 : decode cX9_init 108 = .ok (.getfield 35, 3) := by decide +kernel
theorem dX9_init_111 : decode cX9_init 111 = .ok (.invokespecial 59, 3) := by decide +kernel
theorem dX9_init_114 : decode cX9_init 114 = .ok (.putfield 60, 3) := by decide +kernel
theorem dX9_init_117 : decode cX9_init 117 = .ok (.aload_n 0, 1) := by decide +kernel
theorem dX9_init_118 : decode cX9_init 118 = .ok (.new 64, 3) := by decide +kernel
theorem dX9_init_121 : decode cX9_init 121 = .ok (.dup, 1) := by decide +kernel
theorem dX9_init_122 : decode cX9_init 122 = .ok (.aload_n 0, 1) := by decide +kernel
theorem dX9_init_123 : decode cX9_init 123 = .ok (.getfield 12, 3) := by decide +kernel
theorem dX9_init_126 : decode cX9_init 126 = .ok (.invokespecial 66, 3) := by decide +kernel
theorem dX9_init_129 : decode cX9_init 129 = .ok (.putfield 69, 3) := by decide +kernel
theorem dX9_init_132 : decode cX9_init 132 = .ok (.aload_n 0, 1) := by decide +kernel
theorem dX9_init_133 : decode cX9_init 133 = .ok (.new 73, 3) := by decide +kernel
theorem dX9_init_136 : decode cX9_init 136 = .ok (.dup, 1) := by decide +kernel
theorem dX9_init_137 : decode cX9_init 137 = .ok (.aload_n 0, 1) := by decide +kernel
theorem dX9_init_138 : decode cX9_init 138 = .ok (.getfield 12, 3) := by decide +kernel
theorem dX9_init_141 : decode cX9_init 141 = .ok (.aload_n 0, 1) := by decide +kernel
theorem dX9_init_142 : decode cX9_init 142 = .ok (.getfield 19, 3) := by decide +kernel
theorem dX9_init_145 : decode cX9_init 145 = .ok (.invokespecial 75, 3) := by decide +kernel
theorem dX9_init_148 : decode cX9_init 148 = .ok (.putfield 78, 3) := by decide +kernel
theorem dX9_init_151 : decode cX9_init 151 = .ok (.return_, 1) := by decide +kernel
theorem dX9_feed_0 : decode cX9_feed 0 = .ok (.aload_n 0, 1) := by decide +kernel
theorem dX9_feed_1 : decode cX9_feed 1 = .ok (.getfield 12, 3) := by decide +kernel
theorem dX9_feed_4 : decode cX9_feed 4 = .ok (.invokevirtual 82, 3) := by decide +kernel
theorem dX9_feed_7 : decode cX9_feed 7 = .ok (.ifCond .ne 5, 3) := by decide +kernel
theorem dX9_feed_10 : decode cX9_feed 10 = .ok (.iconst (-1), 1) := by decide +kernel
theorem dX9_feed_11 : decode cX9_feed 11 = .ok (.ireturn, 1) := by decide +kernel
theorem dX9_feed_12 : decode cX9_feed 12 = .ok (.aload_n 0, 1) := by decide +kernel
theorem dX9_feed_13 : decode cX9_feed 13 = .ok (.getfield 12, 3) := by decide +kernel
theorem dX9_feed_16 : decode cX9_feed 16 = .ok (.iload_n 1, 1) := by decide +kernel
theorem dX9_feed_17 : decode cX9_feed 17 = .ok (.invokevirtual 86, 3) := by decide +kernel
theorem dX9_feed_20 : decode cX9_feed 20 = .ok (.aload_n 0, 1) := by decide +kernel
theorem dX9_feed_21 : decode cX9_feed 21 = .ok (.getfield 12, 3) := by decide +kernel
theorem dX9_feed_24 : decode cX9_feed 24 = .ok (.iload_n 2, 1) := by decide +kernel
theorem dX9_feed_25 : decode cX9_feed 25 = .ok (.invokevirtual 86, 3) := by decide +kernel
theorem dX9_feed_28 : decode cX9_feed 28 = .ok (.aload_n 0, 1) := by decide +kernel
theorem dX9_feed_29 : decode cX9_feed 29 = .ok (.getfield 12, 3) := by decide +kernel
theorem dX9_feed_32 : decode cX9_feed 32 = .ok (.iload_n 3, 1) := by decide +kernel
theorem dX9_feed_33 : decode cX9_feed 33 = .ok (.invokevirtual 86, 3) := by decide +kernel
theorem dX9_feed_36 : decode cX9_feed 36 = .ok (.aload_n 0, 1) := by decide +kernel
theorem dX9_feed_37 : decode cX9_feed 37 = .ok (.getfield 12, 3) := by decide +kernel
theorem dX9_feed_40 : decode cX9_feed 40 = .ok (.iload 4, 2) := by decide +kernel
theorem dX9_feed_42 : decode cX9_feed 42 = .ok (.invokevirtual 86, 3) := by decide +kernel
theorem dX9_feed_45 : decode cX9_feed 45 = .ok (.aload_n 0, 1) := by decide +kernel
theorem dX9_feed_46 : decode cX9_feed 46 = .ok (.getfield 12, 3) := by decide +kernel
theorem dX9_feed_49 : decode cX9_feed 49 = .ok (.iload 5, 2) := by decide +kernel
theorem dX9_feed_51 : decode cX9_feed 51 = .ok (.invokevirtual 86, 3) := by decide +kernel
theorem dX9_feed_54 : decode cX9_feed 54 = .ok (.aload_n 0, 1) := by decide +kernel
theorem dX9_feed_55 : decode cX9_feed 55 = .ok (.getfield 12, 3) := by decide +kernel
theorem dX9_feed_58 : decode cX9_feed 58 = .ok (.getfield 90, 3) := by decide +kernel
theorem dX9_feed_61 : decode cX9_feed 61 = .ok (.ireturn, 1) := by decide +kernel
theorem dX9_load_0 : decode cX9_load 0 = .ok (.iload_n 1, 1) := by decide +kernel
theorem dX9_load_1 : decode cX9_load 1 = .ok (.ifCond .lt 14, 3) := by decide +kernel
theorem dX9_load_4 : decode cX9_load 4 = .ok (.iload_n 1, 1) := by decide +kernel
theorem dX9_load_5 : decode cX9_load 5 = .ok (.aload_n 0, 1) := by decide +kernel
theorem dX9_load_6 : decode cX9_load 6 = .ok (.getfield 12, 3) := by decide +kernel
theorem dX9_load_9 : decode cX9_load 9 = .ok (.getfield 90, 3) := by decide +kernel
theorem dX9_load_12 : decode cX9_load 12 = .ok (.if_icmp .le 13, 3) := by decide +kernel
theorem dX9_load_15 : decode cX9_load 15 = .ok (.new 94, 3) := by decide +kernel
theorem dX9_load_18 : decode cX9_load 18 = .ok (.dup, 1) := by decide +kernel
theorem dX9_load_19 : decode cX9_load 19 = .ok (.ldc 96, 2) := by decide +kernel
theorem dX9_load_21 : decode cX9_load 21 = .ok (.invokespecial 98, 3) := by decide +kernel
theorem dX9_load_24 : decode cX9_load 24 = .ok (.athrow, 1) := by decide +kernel
theorem dX9_load_25 : decode cX9_load 25 = .ok (.aload_n 0, 1) := by decide +kernel
theorem dX9_load_26 : decode cX9_load 26 = .ok (.getfield 69, 3) := by decide +kernel
theorem dX9_load_29 : decode cX9_load 29 = .ok (.iload_n 1, 1) := by decide +kernel
theorem dX9_load_30 : decode cX9_load 30 = .ok (.invokevirtual 101, 3) := by decide +kernel
theorem dX9_load_33 : decode cX9_load 33 = .ok (.istore_n 2, 1) := by decide +kernel
theorem dX9_load_34 : decode cX9_load 34 = .ok (.iload_n 2, 1) := by decide +kernel
theorem dX9_load_35 : decode cX9_load 35 = .ok (.ifCond .eq 8, 3) := by decide +kernel
theorem dX9_load_38 : decode cX9_load 38 = .ok (.bipush (-10), 2) := by decide +kernel
theorem dX9_load_40 : decode cX9_load 40 = .ok (.iload_n 2, 1) := by decide +kernel
theorem dX9_load_41 : decode cX9_load 41 = .ok (.isub, 1) := by decide +kernel
theorem dX9_load_42 : decode cX9_load 42 = .ok (.ireturn, 1) := by decide +kernel
theorem dX9_load_43 : decode cX9_load 43 = .ok (.aload_n 0, 1) := by decide +kernel
theorem dX9_load_44 : decode cX9_load 44 = .ok (.getfield 19, 3) := by decide +kernel
theorem dX9_load_47 : decode cX9_load 47 = .ok (.aload_n 0, 1) := by decide +kernel
theorem dX9_load_48 : decode cX9_load 48 = .ok (.getfield 69, 3) := by decide +kernel
theorem dX9_load_51 : decode cX9_load 51 = .ok (.getfield 105, 3) := by decide +kernel
theorem dX9_load_54 : decode cX9_load 54 = .ok (.invokevirtual 108, 3) := by decide +kernel
theorem dX9_load_57 : decode cX9_load 57 = .ok (.aload_n 0, 1) := by decide +kernel
theorem dX9_load_58 : decode cX9_load 58 = .ok (.getfield 35, 3) := by decide +kernel
theorem dX9_load_61 : decode cX9_load 61 = .ok (.invokevirtual 111, 3) := by decide +kernel
theorem dX9_load_64 : decode cX9_load 64 = .ok (.aload_n 0, 1) := by decide +kernel
theorem dX9_load_65 : decode cX9_load 65 = .ok (.getfield 60, 3) := by decide +kernel
theorem dX9_load_68 : decode cX9_load 68 = .ok (.invokevirtual 114, 3) := by decide +kernel
theorem dX9_load_71 : decode cX9_load 71 = .ok (.aload_n 0, 1) := by decide +kernel
theorem dX9_load_72 : decode cX9_load 72 = .ok (.getfield 19, 3) := by decide +kernel
theorem dX9_load_75 : decode cX9_load 75 = .ok (.getfield 117, 3) := by decide +kernel
theorem dX9_load_78 : decode cX9_load 78 = .ok (.ireturn, 1) := by decide +kernel
theorem dX9_errorPosition_0 : decode cX9_errorPosition 0 = .ok (.aload_n 0, 1) := by decide +kernel
theorem dX9_errorPosition_1 : decode cX9_errorPosition 1 = .ok (.getfield 12, 3) := by decide +kernel
theorem dX9_errorPosition_4 : decode cX9_errorPosition 4 = .ok (.getfield 120, 3) := by decide +kernel
theorem dX9_errorPosition_7 : decode cX9_errorPosition 7 = .ok (.ireturn, 1) := by decide +kernel
theorem dX9_count_0 : decode cX9_count 0 = .ok (.iload_n 1, 1) := by decide +kernel
theorem dX9_count_1 : decode cX9_count 1 = .ok (.tableswitch 107 0 6 #[43, 51, 59, 67, 75, 91, 99], 43) := by decide +kernel
theorem dX9_count_44 : decode cX9_count 44 = .ok (.aload_n 0, 1) := by decide +kernel
theorem dX9_count_45 : decode cX9_count 45 = .ok (.getfield 19, 3) := by decide +kernel
theorem dX9_count_48 : decode cX9_count 48 = .ok (.getfield 117, 3) := by decide +kernel
theorem dX9_count_51 : decode cX9_count 51 = .ok (.ireturn, 1) := by decide +kernel
theorem dX9_count_52 : decode cX9_count 52 = .ok (.aload_n 0, 1) := by decide +kernel
theorem dX9_count_53 : decode cX9_count 53 = .ok (.getfield 19, 3) := by decide +kernel
theorem dX9_count_56 : decode cX9_count 56 = .ok (.getfield 123, 3) := by decide +kernel
theorem dX9_count_59 : decode cX9_count 59 = .ok (.ireturn, 1) := by decide +kernel
theorem dX9_count_60 : decode cX9_count 60 = .ok (.aload_n 0, 1) := by decide +kernel
theorem dX9_count_61 : decode cX9_count 61 = .ok (.getfield 19, 3) := by decide +kernel
theorem dX9_count_64 : decode cX9_count 64 = .ok (.getfield 126, 3) := by decide +kernel
theorem dX9_count_67 : decode cX9_count 67 = .ok (.ireturn, 1) := by decide +kernel
theorem dX9_count_68 : decode cX9_count 68 = .ok (.aload_n 0, 1) := by decide +kernel
theorem dX9_count_69 : decode cX9_count 69 = .ok (.getfield 35, 3) := by decide +kernel
theorem dX9_count_72 : decode cX9_count 72 = .ok (.invokevirtual 129, 3) := by decide +kernel
theorem dX9_count_75 : decode cX9_count 75 = .ok (.ireturn, 1) := by decide +kernel
theorem dX9_count_76 : decode cX9_count 76 = .ok (.aload_n 0, 1) := by decide +kernel
theorem dX9_count_77 : decode cX9_count 77 = .ok (.getfield 35, 3) := by decide +kernel
theorem dX9_count_80 : decode cX9_count 80 = .ok (.invokevirtual 129, 3) := by decide +kernel
theorem dX9_count_83 : decode cX9_count 83 = .ok (.aload_n 0, 1) := by decide +kernel
theorem dX9_count_84 : decode cX9_count 84 = .ok (.getfield 19, 3) := by decide +kernel
theorem dX9_count_87 : decode cX9_count 87 = .ok (.getfield 117, 3) := by decide +kernel
theorem dX9_count_90 : decode cX9_count 90 = .ok (.isub, 1) := by decide +kernel
theorem dX9_count_91 : decode cX9_count 91 = .ok (.ireturn, 1) := by decide +kernel
theorem dX9_count_92 : decode cX9_count 92 = .ok (.aload_n 0, 1) := by decide +kernel
theorem dX9_count_93 : decode cX9_count 93 = .ok (.getfield 19, 3) := by decide +kernel
theorem dX9_count_96 : decode cX9_count 96 = .ok (.invokevirtual 133, 3) := by decide +kernel
theorem dX9_count_99 : decode cX9_count 99 = .ok (.ireturn, 1) := by decide +kernel
theorem dX9_count_100 : decode cX9_count 100 = .ok (.aload_n 0, 1) := by decide +kernel
theorem dX9_count_101 : decode cX9_count 101 = .ok (.getfield 19, 3) := by decide +kernel
theorem dX9_count_104 : decode cX9_count 104 = .ok (.invokevirtual 136, 3) := by decide +kernel
theorem dX9_count_107 : decode cX9_count 107 = .ok (.ireturn, 1) := by decide +kernel
theorem dX9_count_108 : decode cX9_count 108 = .ok (.iconst (-1), 1) := by decide +kernel
theorem dX9_count_109 : decode cX9_count 109 = .ok (.ireturn, 1) := by decide +kernel
theorem dX9_person_0 : decode cX9_person 0 = .ok (.aload_n 0, 1) := by decide +kernel
theorem dX9_person_1 : decode cX9_person 1 = .ok (.iload_n 1, 1) := by decide +kernel
theorem dX9_person_2 : decode cX9_person 2 = .ok (.invokevirtual 139, 3) := by decide +kernel
theorem dX9_person_5 : decode cX9_person 5 = .ok (.iload_n 2, 1) := by decide +kernel
theorem dX9_person_6 : decode cX9_person 6 = .ok (.tableswitch 91 0 4 #[34, 46, 58, 70, 79], 34) := by decide +kernel
theorem dX9_person_40 : decode cX9_person 40 = .ok (.aload_n 0, 1) := by decide +kernel
theorem dX9_person_41 : decode cX9_person 41 = .ok (.getfield 19, 3) := by decide +kernel
theorem dX9_person_44 : decode cX9_person 44 = .ok (.getfield 142, 3) := by decide +kernel
theorem dX9_person_47 : decode cX9_person 47 = .ok (.iload_n 1, 1) := by decide +kernel
theorem dX9_person_48 : decode cX9_person 48 = .ok (.invokestatic 146, 3) := by decide +kernel
theorem dX9_person_51 : decode cX9_person 51 = .ok (.ireturn, 1) := by decide +kernel
theorem dX9_person_52 : decode cX9_person 52 = .ok (.aload_n 0, 1) := by decide +kernel
theorem dX9_person_53 : decode cX9_person 53 = .ok (.getfield 19, 3) := by decide +kernel
theorem dX9_person_56 : decode cX9_person 56 = .ok (.getfield 150, 3) := by decide +kernel
theorem dX9_person_59 : decode cX9_person 59 = .ok (.iload_n 1, 1) := by decide +kernel
theorem dX9_person_60 : decode cX9_person 60 = .ok (.invokestatic 146, 3) := by decide +kernel
theorem dX9_person_63 : decode cX9_person 63 = .ok (.ireturn, 1) := by decide +kernel
theorem dX9_person_64 : decode cX9_person 64 = .ok (.aload_n 0, 1) := by decide +kernel
theorem dX9_person_65 : decode cX9_person 65 = .ok (.getfield 19, 3) := by decide +kernel
theorem dX9_person_68 : decode cX9_person 68 = .ok (.getfield 153, 3) := by decide +kernel
theorem dX9_person_71 : decode cX9_person 71 = .ok (.iload_n 1, 1) := by decide +kernel
theorem dX9_person_72 : decode cX9_person 72 = .ok (.invokestatic 146, 3) := by decide +kernel
theorem dX9_person_75 : decode cX9_person 75 = .ok (.ireturn, 1) := by decide +kernel
theorem dX9_person_76 : decode cX9_person 76 = .ok (.aload_n 0, 1) := by decide +kernel
theorem dX9_person_77 : decode cX9_person 77 = .ok (.getfield 19, 3) := by decide +kernel
theorem dX9_person_80 : decode cX9_person 80 = .ok (.iload_n 1, 1) := by decide +kernel
theorem dX9_person_81 : decode cX9_person 81 = .ok (.invokevirtual 156, 3) := by decide +kernel
theorem dX9_person_84 : decode cX9_person 84 = .ok (.ireturn, 1) := by decide +kernel
theorem dX9_person_85 : decode cX9_person 85 = .ok (.aload_n 0, 1) := by decide +kernel
theorem dX9_person_86 : decode cX9_person 86 = .ok (.getfield 19, 3) := by decide +kernel
theorem dX9_person_89 : decode cX9_person 89 = .ok (.getfield 159, 3) := by decide +kernel
theorem dX9_person_92 : decode cX9_person 92 = .ok (.iload_n 1, 1) := by decide +kernel
theorem dX9_person_93 : decode cX9_person 93 = .ok (.invokestatic 146, 3) := by decide +kernel
theorem dX9_person_96 : decode cX9_person 96 = .ok (.ireturn, 1) := by decide +kernel
theorem dX9_person_97 : decode cX9_person 97 = .ok (.new 162, 3) := by decide +kernel
theorem dX9_person_100 : decode cX9_person 100 = .ok (.dup, 1) := by decide +kernel
theorem dX9_person_101 : decode cX9_person 101 = .ok (.ldc 164, 2) := by decide +kernel
theorem dX9_person_103 : decode cX9_person 103 = .ok (.invokespecial 166, 3) := by decide +kernel
theorem dX9_person_106 : decode cX9_person 106 = .ok (.athrow, 1) := by decide +kernel
theorem dX9_union_0 : decode cX9_union 0 = .ok (.aload_n 0, 1) := by decide +kernel
theorem dX9_union_1 : decode cX9_union 1 = .ok (.iload_n 1, 1) := by decide +kernel
theorem dX9_union_2 : decode cX9_union 2 = .ok (.invokevirtual 167, 3) := by decide +kernel
theorem dX9_union_5 : decode cX9_union 5 = .ok (.iload_n 2, 1) := by decide +kernel
theorem dX9_union_6 : decode cX9_union 6 = .ok (.tableswitch 127 0 6 #[42, 54, 66, 78, 90, 102, 111], 42) := by decide +kernel
theorem dX9_union_48 : decode cX9_union 48 = .ok (.aload_n 0, 1) := by decide +kernel
theorem dX9_union_49 : decode cX9_union 49 = .ok (.getfield 19, 3) := by decide +kernel
theorem dX9_union_52 : decode cX9_union 52 = .ok (.getfield 170, 3) := by decide +kernel
theorem dX9_union_55 : decode cX9_union 55 = .ok (.iload_n 1, 1) := by decide +kernel
theorem dX9_union_56 : decode cX9_union 56 = .ok (.invokestatic 146, 3) := by decide +kernel
theorem dX9_union_59 : decode cX9_union 59 = .ok (.ireturn, 1) := by decide +kernel
theorem dX9_union_60 : decode cX9_union 60 = .ok (.aload_n 0, 1) := by decide +kernel
theorem dX9_union_61 : decode cX9_union 61 = .ok (.getfield 19, 3) := by decide +kernel
theorem dX9_union_64 : decode cX9_union 64 = .ok (.getfield 173, 3) := by decide +kernel
theorem dX9_union_67 : decode cX9_union 67 = .ok (.iload_n 1, 1) := by decide +kernel
theorem dX9_union_68 : decode cX9_union 68 = .ok (.invokestatic 146, 3) := by decide +kernel
theorem dX9_union_71 : decode cX9_union 71 = .ok (.ireturn, 1) := by decide +kernel
theorem dX9_union_72 : decode cX9_union 72 = .ok (.aload_n 0, 1) := by decide +kernel
theorem dX9_union_73 : decode cX9_union 73 = .ok (.getfield 19, 3) := by decide +kernel
theorem dX9_union_76 : decode cX9_union 76 = .ok (.getfield 176, 3) := by decide +kernel
theorem dX9_union_79 : decode cX9_union 79 = .ok (.iload_n 1, 1) := by decide +kernel
theorem dX9_union_80 : decode cX9_union 80 = .ok (.invokestatic 146, 3) := by decide +kernel
theorem dX9_union_83 : decode cX9_union 83 = .ok (.ireturn, 1) := by decide +kernel
theorem dX9_union_84 : decode cX9_union 84 = .ok (.aload_n 0, 1) := by decide +kernel
theorem dX9_union_85 : decode cX9_union 85 = .ok (.getfield 19, 3) := by decide +kernel
theorem dX9_union_88 : decode cX9_union 88 = .ok (.getfield 179, 3) := by decide +kernel
theorem dX9_union_91 : decode cX9_union 91 = .ok (.iload_n 1, 1) := by decide +kernel
theorem dX9_union_92 : decode cX9_union 92 = .ok (.invokestatic 146, 3) := by decide +kernel
theorem dX9_union_95 : decode cX9_union 95 = .ok (.ireturn, 1) := by decide +kernel
theorem dX9_union_96 : decode cX9_union 96 = .ok (.aload_n 0, 1) := by decide +kernel
theorem dX9_union_97 : decode cX9_union 97 = .ok (.getfield 19, 3) := by decide +kernel
theorem dX9_union_100 : decode cX9_union 100 = .ok (.iload_n 1, 1) := by decide +kernel
theorem dX9_union_101 : decode cX9_union 101 = .ok (.invokevirtual 182, 3) := by decide +kernel
theorem dX9_union_104 : decode cX9_union 104 = .ok (.invokestatic 185, 3) := by decide +kernel
theorem dX9_union_107 : decode cX9_union 107 = .ok (.ireturn, 1) := by decide +kernel
theorem dX9_union_108 : decode cX9_union 108 = .ok (.aload_n 0, 1) := by decide +kernel
theorem dX9_union_109 : decode cX9_union 109 = .ok (.getfield 35, 3) := by decide +kernel
theorem dX9_union_112 : decode cX9_union 112 = .ok (.iload_n 1, 1) := by decide +kernel
theorem dX9_union_113 : decode cX9_union 113 = .ok (.invokevirtual 190, 3) := by decide +kernel
theorem dX9_union_116 : decode cX9_union 116 = .ok (.ireturn, 1) := by decide +kernel
theorem dX9_union_117 : decode cX9_union 117 = .ok (.aload_n 0, 1) := by decide +kernel
theorem dX9_union_118 : decode cX9_union 118 = .ok (.getfield 44, 3) := by decide +kernel
theorem dX9_union_121 : decode cX9_union 121 = .ok (.invokevirtual 193, 3) := by decide +kernel
theorem dX9_union_124 : decode cX9_union 124 = .ok (.aload_n 0, 1) := by decide +kernel
theorem dX9_union_125 : decode cX9_union 125 = .ok (.getfield 44, 3) := by decide +kernel
theorem dX9_union_128 : decode cX9_union 128 = .ok (.iload_n 1, 1) := by decide +kernel
theorem dX9_union_129 : decode cX9_union 129 = .ok (.invokevirtual 196, 3) := by decide +kernel
theorem dX9_union_132 : decode cX9_union 132 = .ok (.ireturn, 1) := by decide +kernel
theorem dX9_union_133 : decode cX9_union 133 = .ok (.new 162, 3) := by decide +kernel
theorem dX9_union_136 : decode cX9_union 136 = .ok (.dup, 1) := by decide +kernel
theorem dX9_union_137 : decode cX9_union 137 = .ok (.ldc 199, 2) := by decide +kernel
theorem dX9_union_139 : decode cX9_union 139 = .ok (.invokespecial 166, 3) := by decide +kernel
theorem dX9_union_142 : decode cX9_union 142 = .ok (.athrow, 1) := by decide +kernel
theorem dX9_children_0 : decode cX9_children 0 = .ok (.aload_n 0, 1) := by decide +kernel
theorem dX9_children_1 : decode cX9_children 1 = .ok (.iload_n 1, 1) := by decide +kernel
theorem dX9_children_2 : decode cX9_children 2 = .ok (.invokevirtual 167, 3) := by decide +kernel
theorem dX9_children_5 : decode cX9_children 5 = .ok (.aload_n 0, 1) := by decide +kernel
theorem dX9_children_6 : decode cX9_children 6 = .ok (.getfield 19, 3) := by decide +kernel
theorem dX9_children_9 : decode cX9_children 9 = .ok (.iload_n 1, 1) := by decide +kernel
theorem dX9_children_10 : decode cX9_children 10 = .ok (.invokevirtual 182, 3) := by decide +kernel
theorem dX9_children_13 : decode cX9_children 13 = .ok (.ireturn, 1) := by decide +kernel
theorem dX9_ancestors_0 : decode cX9_ancestors 0 = .ok (.aload_n 0, 1) := by decide +kernel
theorem dX9_ancestors_1 : decode cX9_ancestors 1 = .ok (.iload_n 1, 1) := by decide +kernel
theorem dX9_ancestors_2 : decode cX9_ancestors 2 = .ok (.invokevirtual 139, 3) := by decide +kernel
theorem dX9_ancestors_5 : decode cX9_ancestors 5 = .ok (.aload_n 0, 1) := by decide +kernel
theorem dX9_ancestors_6 : decode cX9_ancestors 6 = .ok (.getfield 19, 3) := by decide +kernel
theorem dX9_ancestors_9 : decode cX9_ancestors 9 = .ok (.getfield 201, 3) := by decide +kernel
theorem dX9_ancestors_12 : decode cX9_ancestors 12 = .ok (.iload_n 1, 1) := by decide +kernel
theorem dX9_ancestors_13 : decode cX9_ancestors 13 = .ok (.invokestatic 146, 3) := by decide +kernel
theorem dX9_ancestors_16 : decode cX9_ancestors 16 = .ok (.ireturn, 1) := by decide +kernel
theorem dX9_descendants_0 : decode cX9_descendants 0 = .ok (.aload_n 0, 1) := by decide +kernel
theorem dX9_descendants_1 : decode cX9_descendants 1 = .ok (.iload_n 1, 1) := by decide +kernel
theorem dX9_descendants_2 : decode cX9_descendants 2 = .ok (.invokevirtual 139, 3) := by decide +kernel
theorem dX9_descendants_5 : decode cX9_descendants 5 = .ok (.aload_n 0, 1) := by decide +kernel
theorem dX9_descendants_6 : decode cX9_descendants 6 = .ok (.getfield 19, 3) := by decide +kernel
theorem dX9_descendants_9 : decode cX9_descendants 9 = .ok (.iload_n 1, 1) := by decide +kernel
theorem dX9_descendants_10 : decode cX9_descendants 10 = .ok (.invokevirtual 204, 3) := by decide +kernel
theorem dX9_descendants_13 : decode cX9_descendants 13 = .ok (.ireturn, 1) := by decide +kernel
theorem dX9_kinship_0 : decode cX9_kinship 0 = .ok (.aload_n 0, 1) := by decide +kernel
theorem dX9_kinship_1 : decode cX9_kinship 1 = .ok (.iload_n 1, 1) := by decide +kernel
theorem dX9_kinship_2 : decode cX9_kinship 2 = .ok (.invokevirtual 139, 3) := by decide +kernel
theorem dX9_kinship_5 : decode cX9_kinship 5 = .ok (.aload_n 0, 1) := by decide +kernel
theorem dX9_kinship_6 : decode cX9_kinship 6 = .ok (.iload_n 2, 1) := by decide +kernel
theorem dX9_kinship_7 : decode cX9_kinship 7 = .ok (.invokevirtual 139, 3) := by decide +kernel
theorem dX9_kinship_10 : decode cX9_kinship 10 = .ok (.aload_n 0, 1) := by decide +kernel
theorem dX9_kinship_11 : decode cX9_kinship 11 = .ok (.getfield 28, 3) := by decide +kernel
theorem dX9_kinship_14 : decode cX9_kinship 14 = .ok (.invokevirtual 207, 3) := by decide +kernel
theorem dX9_kinship_17 : decode cX9_kinship 17 = .ok (.aload_n 0, 1) := by decide +kernel
theorem dX9_kinship_18 : decode cX9_kinship 18 = .ok (.getfield 28, 3) := by decide +kernel
theorem dX9_kinship_21 : decode cX9_kinship 21 = .ok (.iload_n 1, 1) := by decide +kernel
theorem dX9_kinship_22 : decode cX9_kinship 22 = .ok (.iload_n 2, 1) := by decide +kernel
theorem dX9_kinship_23 : decode cX9_kinship 23 = .ok (.invokevirtual 210, 3) := by decide +kernel
theorem dX9_kinship_26 : decode cX9_kinship 26 = .ok (.lreturn, 1) := by decide +kernel
theorem dX9_distance_0 : decode cX9_distance 0 = .ok (.aload_n 0, 1) := by decide +kernel
theorem dX9_distance_1 : decode cX9_distance 1 = .ok (.iload_n 1, 1) := by decide +kernel
theorem dX9_distance_2 : decode cX9_distance 2 = .ok (.invokevirtual 139, 3) := by decide +kernel
theorem dX9_distance_5 : decode cX9_distance 5 = .ok (.aload_n 0, 1) := by decide +kernel
theorem dX9_distance_6 : decode cX9_distance 6 = .ok (.iload_n 2, 1) := by decide +kernel
theorem dX9_distance_7 : decode cX9_distance 7 = .ok (.invokevirtual 139, 3) := by decide +kernel
theorem dX9_distance_10 : decode cX9_distance 10 = .ok (.aload_n 0, 1) := by decide +kernel
theorem dX9_distance_11 : decode cX9_distance 11 = .ok (.getfield 28, 3) := by decide +kernel
theorem dX9_distance_14 : decode cX9_distance 14 = .ok (.iload_n 1, 1) := by decide +kernel
theorem dX9_distance_15 : decode cX9_distance 15 = .ok (.iload_n 2, 1) := by decide +kernel
theorem dX9_distance_16 : decode cX9_distance 16 = .ok (.invokevirtual 214, 3) := by decide +kernel
theorem dX9_distance_19 : decode cX9_distance 19 = .ok (.ireturn, 1) := by decide +kernel
theorem dX9_linesTo_0 : decode cX9_linesTo 0 = .ok (.aload_n 0, 1) := by decide +kernel
theorem dX9_linesTo_1 : decode cX9_linesTo 1 = .ok (.iload_n 1, 1) := by decide +kernel
theorem dX9_linesTo_2 : decode cX9_linesTo 2 = .ok (.invokevirtual 139, 3) := by decide +kernel
theorem dX9_linesTo_5 : decode cX9_linesTo 5 = .ok (.aload_n 0, 1) := by decide +kernel
theorem dX9_linesTo_6 : decode cX9_linesTo 6 = .ok (.iload_n 2, 1) := by decide +kernel
theorem dX9_linesTo_7 : decode cX9_linesTo 7 = .ok (.invokevirtual 139, 3) := by decide +kernel
theorem dX9_linesTo_10 : decode cX9_linesTo 10 = .ok (.aload_n 0, 1) := by decide +kernel
theorem dX9_linesTo_11 : decode cX9_linesTo 11 = .ok (.getfield 28, 3) := by decide +kernel
theorem dX9_linesTo_14 : decode cX9_linesTo 14 = .ok (.iload_n 1, 1) := by decide +kernel
theorem dX9_linesTo_15 : decode cX9_linesTo 15 = .ok (.iload_n 2, 1) := by decide +kernel
theorem dX9_linesTo_16 : decode cX9_linesTo 16 = .ok (.invokevirtual 218, 3) := by decide +kernel
theorem dX9_linesTo_19 : decode cX9_linesTo 19 = .ok (.ireturn, 1) := by decide +kernel
theorem dX9_nearestAncestor_0 : decode cX9_nearestAncestor 0 = .ok (.aload_n 0, 1) := by decide +kernel
theorem dX9_nearestAncestor_1 : decode cX9_nearestAncestor 1 = .ok (.iload_n 1, 1) := by decide +kernel
theorem dX9_nearestAncestor_2 : decode cX9_nearestAncestor 2 = .ok (.invokevirtual 139, 3) := by decide +kernel
theorem dX9_nearestAncestor_5 : decode cX9_nearestAncestor 5 = .ok (.aload_n 0, 1) := by decide +kernel
theorem dX9_nearestAncestor_6 : decode cX9_nearestAncestor 6 = .ok (.iload_n 2, 1) := by decide +kernel
theorem dX9_nearestAncestor_7 : decode cX9_nearestAncestor 7 = .ok (.invokevirtual 139, 3) := by decide +kernel
theorem dX9_nearestAncestor_10 : decode cX9_nearestAncestor 10 = .ok (.aload_n 0, 1) := by decide +kernel
theorem dX9_nearestAncestor_11 : decode cX9_nearestAncestor 11 = .ok (.getfield 28, 3) := by decide +kernel
theorem dX9_nearestAncestor_14 : decode cX9_nearestAncestor 14 = .ok (.iload_n 1, 1) := by decide +kernel
theorem dX9_nearestAncestor_15 : decode cX9_nearestAncestor 15 = .ok (.iload_n 2, 1) := by decide +kernel
theorem dX9_nearestAncestor_16 : decode cX9_nearestAncestor 16 = .ok (.invokevirtual 221, 3) := by decide +kernel
theorem dX9_nearestAncestor_19 : decode cX9_nearestAncestor 19 = .ok (.ireturn, 1) := by decide +kernel
theorem dX9_collapse_0 : decode cX9_collapse 0 = .ok (.aload_n 0, 1) := by decide +kernel
theorem dX9_collapse_1 : decode cX9_collapse 1 = .ok (.iload_n 1, 1) := by decide +kernel
theorem dX9_collapse_2 : decode cX9_collapse 2 = .ok (.invokevirtual 139, 3) := by decide +kernel
theorem dX9_collapse_5 : decode cX9_collapse 5 = .ok (.iload_n 2, 1) := by decide +kernel
theorem dX9_collapse_6 : decode cX9_collapse 6 = .ok (.iconst 1, 1) := by decide +kernel
theorem dX9_collapse_7 : decode cX9_collapse 7 = .ok (.if_icmp .lt 9, 3) := by decide +kernel
theorem dX9_collapse_10 : decode cX9_collapse 10 = .ok (.iload_n 2, 1) := by decide +kernel
theorem dX9_collapse_11 : decode cX9_collapse 11 = .ok (.bipush 15, 2) := by decide +kernel
theorem dX9_collapse_13 : decode cX9_collapse 13 = .ok (.if_icmp .le 13, 3) := by decide +kernel
theorem dX9_collapse_16 : decode cX9_collapse 16 = .ok (.new 94, 3) := by decide +kernel
theorem dX9_collapse_19 : decode cX9_collapse 19 = .ok (.dup, 1) := by decide +kernel
theorem dX9_collapse_20 : decode cX9_collapse 20 = .ok (.ldc 224, 2) := by decide +kernel
theorem dX9_collapse_22 : decode cX9_collapse 22 = .ok (.invokespecial 98, 3) := by decide +kernel
theorem dX9_collapse_25 : decode cX9_collapse 25 = .ok (.athrow, 1) := by decide +kernel
theorem dX9_collapse_26 : decode cX9_collapse 26 = .ok (.aload_n 0, 1) := by decide +kernel
theorem dX9_collapse_27 : decode cX9_collapse 27 = .ok (.getfield 28, 3) := by decide +kernel
theorem dX9_collapse_30 : decode cX9_collapse 30 = .ok (.iload_n 1, 1) := by decide +kernel
theorem dX9_collapse_31 : decode cX9_collapse 31 = .ok (.iload_n 2, 1) := by decide +kernel
theorem dX9_collapse_32 : decode cX9_collapse 32 = .ok (.invokevirtual 226, 3) := by decide +kernel
theorem dX9_collapse_35 : decode cX9_collapse 35 = .ok (.ireturn, 1) := by decide +kernel
theorem dX9_boxes_0 : decode cX9_boxes 0 = .ok (.aload_n 0, 1) := by decide +kernel
theorem dX9_boxes_1 : decode cX9_boxes 1 = .ok (.iload_n 1, 1) := by decide +kernel
theorem dX9_boxes_2 : decode cX9_boxes 2 = .ok (.invokevirtual 229, 3) := by decide +kernel
theorem dX9_boxes_5 : decode cX9_boxes 5 = .ok (.aload_n 0, 1) := by decide +kernel
theorem dX9_boxes_6 : decode cX9_boxes 6 = .ok (.getfield 35, 3) := by decide +kernel
theorem dX9_boxes_9 : decode cX9_boxes 9 = .ok (.iload_n 1, 1) := by decide +kernel
theorem dX9_boxes_10 : decode cX9_boxes 10 = .ok (.invokevirtual 232, 3) := by decide +kernel
theorem dX9_boxes_13 : decode cX9_boxes 13 = .ok (.ireturn, 1) := by decide +kernel
theorem dX9_box_0 : decode cX9_box 0 = .ok (.aload_n 0, 1) := by decide +kernel
theorem dX9_box_1 : decode cX9_box 1 = .ok (.iload_n 1, 1) := by decide +kernel
theorem dX9_box_2 : decode cX9_box 2 = .ok (.iload_n 2, 1) := by decide +kernel
theorem dX9_box_3 : decode cX9_box 3 = .ok (.invokevirtual 235, 3) := by decide +kernel
theorem dX9_box_6 : decode cX9_box 6 = .ok (.aload_n 0, 1) := by decide +kernel
theorem dX9_box_7 : decode cX9_box 7 = .ok (.getfield 35, 3) := by decide +kernel
theorem dX9_box_10 : decode cX9_box 10 = .ok (.iload_n 1, 1) := by decide +kernel
theorem dX9_box_11 : decode cX9_box 11 = .ok (.iload_n 2, 1) := by decide +kernel
theorem dX9_box_12 : decode cX9_box 12 = .ok (.invokevirtual 239, 3) := by decide +kernel
theorem dX9_box_15 : decode cX9_box 15 = .ok (.istore 4, 2) := by decide +kernel
theorem dX9_box_17 : decode cX9_box 17 = .ok (.iload_n 3, 1) := by decide +kernel
theorem dX9_box_18 : decode cX9_box 18 = .ok (.tableswitch 76 0 3 #[30, 40, 46, 66], 30) := by decide +kernel
theorem dX9_box_48 : decode cX9_box 48 = .ok (.aload_n 0, 1) := by decide +kernel
theorem dX9_box_49 : decode cX9_box 49 = .ok (.getfield 35, 3) := by decide +kernel
theorem dX9_box_52 : decode cX9_box 52 = .ok (.iload 4, 2) := by decide +kernel
theorem dX9_box_54 : decode cX9_box 54 = .ok (.invokevirtual 242, 3) := by decide +kernel
theorem dX9_box_57 : decode cX9_box 57 = .ok (.ireturn, 1) := by decide +kernel
theorem dX9_box_58 : decode cX9_box 58 = .ok (.iload 4, 2) := by decide +kernel
theorem dX9_box_60 : decode cX9_box 60 = .ok (.invokestatic 245, 3) := by decide +kernel
theorem dX9_box_63 : decode cX9_box 63 = .ok (.ireturn, 1) := by decide +kernel
theorem dX9_box_64 : decode cX9_box 64 = .ok (.aload_n 0, 1) := by decide +kernel
theorem dX9_box_65 : decode cX9_box 65 = .ok (.getfield 44, 3) := by decide +kernel
theorem dX9_box_68 : decode cX9_box 68 = .ok (.invokevirtual 193, 3) := by decide +kernel
theorem dX9_box_71 : decode cX9_box 71 = .ok (.aload_n 0, 1) := by decide +kernel
theorem dX9_box_72 : decode cX9_box 72 = .ok (.getfield 44, 3) := by decide +kernel
theorem dX9_box_75 : decode cX9_box 75 = .ok (.getfield 248, 3) := by decide +kernel
theorem dX9_box_78 : decode cX9_box 78 = .ok (.iload 4, 2) := by decide +kernel
theorem dX9_box_80 : decode cX9_box 80 = .ok (.invokestatic 146, 3) := by decide +kernel
theorem dX9_box_83 : decode cX9_box 83 = .ok (.ireturn, 1) := by decide +kernel
theorem dX9_box_84 : decode cX9_box 84 = .ok (.aload_n 0, 1) := by decide +kernel
theorem dX9_box_85 : decode cX9_box 85 = .ok (.getfield 44, 3) := by decide +kernel
theorem dX9_box_88 : decode cX9_box 88 = .ok (.iload 4, 2) := by decide +kernel
theorem dX9_box_90 : decode cX9_box 90 = .ok (.invokevirtual 251, 3) := by decide +kernel
theorem dX9_box_93 : decode cX9_box 93 = .ok (.ireturn, 1) := by decide +kernel
theorem dX9_box_94 : decode cX9_box 94 = .ok (.new 162, 3) := by decide +kernel
theorem dX9_box_97 : decode cX9_box 97 = .ok (.dup, 1) := by decide +kernel
theorem dX9_box_98 : decode cX9_box 98 = .ok (.ldc 254, 2) := by decide +kernel
theorem dX9_box_100 : decode cX9_box 100 = .ok (.invokespecial 166, 3) := by decide +kernel
theorem dX9_box_103 : decode cX9_box 103 = .ok (.athrow, 1) := by decide +kernel
theorem dX9_place_0 : decode cX9_place 0 = .ok (.aload_n 0, 1) := by decide +kernel
theorem dX9_place_1 : decode cX9_place 1 = .ok (.iload_n 1, 1) := by decide +kernel
theorem dX9_place_2 : decode cX9_place 2 = .ok (.invokevirtual 139, 3) := by decide +kernel
theorem dX9_place_5 : decode cX9_place 5 = .ok (.aload_n 0, 1) := by decide +kernel
theorem dX9_place_6 : decode cX9_place 6 = .ok (.getfield 35, 3) := by decide +kernel
theorem dX9_place_9 : decode cX9_place 9 = .ok (.getfield 256, 3) := by decide +kernel
theorem dX9_place_12 : decode cX9_place 12 = .ok (.iload_n 1, 1) := by decide +kernel
theorem dX9_place_13 : decode cX9_place 13 = .ok (.invokestatic 146, 3) := by decide +kernel
theorem dX9_place_16 : decode cX9_place 16 = .ok (.ireturn, 1) := by decide +kernel
theorem dX9_crossings_0 : decode cX9_crossings 0 = .ok (.aload_n 0, 1) := by decide +kernel
theorem dX9_crossings_1 : decode cX9_crossings 1 = .ok (.getfield 35, 3) := by decide +kernel
theorem dX9_crossings_4 : decode cX9_crossings 4 = .ok (.invokevirtual 259, 3) := by decide +kernel
theorem dX9_crossings_7 : decode cX9_crossings 7 = .ok (.ireturn, 1) := by decide +kernel
theorem dX9_crossingsOf_0 : decode cX9_crossingsOf 0 = .ok (.aload_n 0, 1) := by decide +kernel
theorem dX9_crossingsOf_1 : decode cX9_crossingsOf 1 = .ok (.iload_n 1, 1) := by decide +kernel
theorem dX9_crossingsOf_2 : decode cX9_crossingsOf 2 = .ok (.invokevirtual 229, 3) := by decide +kernel
theorem dX9_crossingsOf_5 : decode cX9_crossingsOf 5 = .ok (.iload_n 2, 1) := by decide +kernel
theorem dX9_crossingsOf_6 : decode cX9_crossingsOf 6 = .ok (.ifCond .eq 14, 3) := by decide +kernel
theorem dX9_crossingsOf_9 : decode cX9_crossingsOf 9 = .ok (.aload_n 0, 1) := by decide +kernel
theorem dX9_crossingsOf_10 : decode cX9_crossingsOf 10 = .ok (.getfield 35, 3) := by decide +kernel
theorem dX9_crossingsOf_13 : decode cX9_crossingsOf 13 = .ok (.iload_n 1, 1) := by decide +kernel
theorem dX9_crossingsOf_14 : decode cX9_crossingsOf 14 = .ok (.invokevirtual 262, 3) := by decide +kernel
theorem dX9_crossingsOf_17 : decode cX9_crossingsOf 17 = .ok (.goto 11, 3) := by decide +kernel
theorem dX9_crossingsOf_20 : decode cX9_crossingsOf 20 = .ok (.aload_n 0, 1) := by decide +kernel
theorem dX9_crossingsOf_21 : decode cX9_crossingsOf 21 = .ok (.getfield 35, 3) := by decide +kernel
theorem dX9_crossingsOf_24 : decode cX9_crossingsOf 24 = .ok (.iload_n 1, 1) := by decide +kernel
theorem dX9_crossingsOf_25 : decode cX9_crossingsOf 25 = .ok (.invokevirtual 265, 3) := by decide +kernel
theorem dX9_crossingsOf_28 : decode cX9_crossingsOf 28 = .ok (.ireturn, 1) := by decide +kernel
theorem dX9_crossingsIf_0 : decode cX9_crossingsIf 0 = .ok (.aload_n 0, 1) := by decide +kernel
theorem dX9_crossingsIf_1 : decode cX9_crossingsIf 1 = .ok (.iload_n 1, 1) := by decide +kernel
theorem dX9_crossingsIf_2 : decode cX9_crossingsIf 2 = .ok (.iload_n 2, 1) := by decide +kernel
theorem dX9_crossingsIf_3 : decode cX9_crossingsIf 3 = .ok (.invokevirtual 235, 3) := by decide +kernel
theorem dX9_crossingsIf_6 : decode cX9_crossingsIf 6 = .ok (.aload_n 0, 1) := by decide +kernel
theorem dX9_crossingsIf_7 : decode cX9_crossingsIf 7 = .ok (.iload_n 1, 1) := by decide +kernel
theorem dX9_crossingsIf_8 : decode cX9_crossingsIf 8 = .ok (.iload_n 3, 1) := by decide +kernel
theorem dX9_crossingsIf_9 : decode cX9_crossingsIf 9 = .ok (.invokevirtual 235, 3) := by decide +kernel
theorem dX9_crossingsIf_12 : decode cX9_crossingsIf 12 = .ok (.aload_n 0, 1) := by decide +kernel
theorem dX9_crossingsIf_13 : decode cX9_crossingsIf 13 = .ok (.getfield 35, 3) := by decide +kernel
theorem dX9_crossingsIf_16 : decode cX9_crossingsIf 16 = .ok (.iload_n 1, 1) := by decide +kernel
theorem dX9_crossingsIf_17 : decode cX9_crossingsIf 17 = .ok (.iload_n 2, 1) := by decide +kernel
theorem dX9_crossingsIf_18 : decode cX9_crossingsIf 18 = .ok (.iload_n 3, 1) := by decide +kernel
theorem dX9_crossingsIf_19 : decode cX9_crossingsIf 19 = .ok (.invokevirtual 268, 3) := by decide +kernel
theorem dX9_crossingsIf_22 : decode cX9_crossingsIf 22 = .ok (.aload_n 0, 1) := by decide +kernel
theorem dX9_crossingsIf_23 : decode cX9_crossingsIf 23 = .ok (.getfield 35, 3) := by decide +kernel
theorem dX9_crossingsIf_26 : decode cX9_crossingsIf 26 = .ok (.invokevirtual 259, 3) := by decide +kernel
theorem dX9_crossingsIf_29 : decode cX9_crossingsIf 29 = .ok (.istore 4, 2) := by decide +kernel
theorem dX9_crossingsIf_31 : decode cX9_crossingsIf 31 = .ok (.aload_n 0, 1) := by decide +kernel
theorem dX9_crossingsIf_32 : decode cX9_crossingsIf 32 = .ok (.getfield 35, 3) := by decide +kernel
theorem dX9_crossingsIf_35 : decode cX9_crossingsIf 35 = .ok (.iload_n 1, 1) := by decide +kernel
theorem dX9_crossingsIf_36 : decode cX9_crossingsIf 36 = .ok (.iload_n 2, 1) := by decide +kernel
theorem dX9_crossingsIf_37 : decode cX9_crossingsIf 37 = .ok (.iload_n 3, 1) := by decide +kernel
theorem dX9_crossingsIf_38 : decode cX9_crossingsIf 38 = .ok (.invokevirtual 268, 3) := by decide +kernel
theorem dX9_crossingsIf_41 : decode cX9_crossingsIf 41 = .ok (.iload 4, 2) := by decide +kernel
theorem dX9_crossingsIf_43 : decode cX9_crossingsIf 43 = .ok (.ireturn, 1) := by decide +kernel
theorem dX9_width_0 : decode cX9_width 0 = .ok (.aload_n 0, 1) := by decide +kernel
theorem dX9_width_1 : decode cX9_width 1 = .ok (.getfield 44, 3) := by decide +kernel
theorem dX9_width_4 : decode cX9_width 4 = .ok (.invokevirtual 193, 3) := by decide +kernel
theorem dX9_width_7 : decode cX9_width 7 = .ok (.aload_n 0, 1) := by decide +kernel
theorem dX9_width_8 : decode cX9_width 8 = .ok (.getfield 53, 3) := by decide +kernel
theorem dX9_width_11 : decode cX9_width 11 = .ok (.invokevirtual 272, 3) := by decide +kernel
theorem dX9_width_14 : decode cX9_width 14 = .ok (.ireturn, 1) := by decide +kernel
theorem dX9_format_0 : decode cX9_format 0 = .ok (.iload_n 1, 1) := by decide +kernel
theorem dX9_format_1 : decode cX9_format 1 = .ok (.ifCond .lt 20, 3) := by decide +kernel
theorem dX9_format_4 : decode cX9_format 4 = .ok (.iload_n 1, 1) := by decide +kernel
theorem dX9_format_5 : decode cX9_format 5 = .ok (.iconst 3, 1) := by decide +kernel
theorem dX9_format_6 : decode cX9_format 6 = .ok (.aload_n 0, 1) := by decide +kernel
theorem dX9_format_7 : decode cX9_format 7 = .ok (.getfield 19, 3) := by decide +kernel
theorem dX9_format_10 : decode cX9_format 10 = .ok (.getfield 126, 3) := by decide +kernel
theorem dX9_format_13 : decode cX9_format 13 = .ok (.imul, 1) := by decide +kernel
theorem dX9_format_14 : decode cX9_format 14 = .ok (.if_icmp .ge 7, 3) := by decide +kernel
theorem dX9_format_17 : decode cX9_format 17 = .ok (.iload_n 2, 1) := by decide +kernel
theorem dX9_format_18 : decode cX9_format 18 = .ok (.ifCond .ge 14, 3) := by decide +kernel
theorem dX9_format_21 : decode cX9_format 21 = .ok (.new 162, 3) := by decide +kernel
theorem dX9_format_24 : decode cX9_format 24 = .ok (.dup, 1) := by decide +kernel
theorem dX9_format_25 : decode cX9_format 25 = .ok (.ldc_w 275, 3) := by decide +kernel
theorem dX9_format_28 : decode cX9_format 28 = .ok (.invokespecial 166, 3) := by decide +kernel
theorem dX9_format_31 : decode cX9_format 31 = .ok (.athrow, 1) := by decide +kernel
theorem dX9_format_32 : decode cX9_format 32 = .ok (.iload_n 3, 1) := by decide +kernel
theorem dX9_format_33 : decode cX9_format 33 = .ok (.invokestatic 277, 3) := by decide +kernel
theorem dX9_format_36 : decode cX9_format 36 = .ok (.aload_n 0, 1) := by decide +kernel
theorem dX9_format_37 : decode cX9_format 37 = .ok (.getfield 44, 3) := by decide +kernel
theorem dX9_format_40 : decode cX9_format 40 = .ok (.invokevirtual 193, 3) := by decide +kernel
theorem dX9_format_43 : decode cX9_format 43 = .ok (.aload_n 0, 1) := by decide +kernel
theorem dX9_format_44 : decode cX9_format 44 = .ok (.getfield 53, 3) := by decide +kernel
theorem dX9_format_47 : decode cX9_format 47 = .ok (.iload_n 1, 1) := by decide +kernel
theorem dX9_format_48 : decode cX9_format 48 = .ok (.invokevirtual 280, 3) := by decide +kernel
theorem dX9_format_51 : decode cX9_format 51 = .ok (.aload_n 0, 1) := by decide +kernel
theorem dX9_format_52 : decode cX9_format 52 = .ok (.getfield 53, 3) := by decide +kernel
theorem dX9_format_55 : decode cX9_format 55 = .ok (.iload_n 2, 1) := by decide +kernel
theorem dX9_format_56 : decode cX9_format 56 = .ok (.i2l, 1) := by decide +kernel
theorem dX9_format_57 : decode cX9_format 57 = .ok (.iload_n 3, 1) := by decide +kernel
theorem dX9_format_58 : decode cX9_format 58 = .ok (.i2l, 1) := by decide +kernel
theorem dX9_format_59 : decode cX9_format 59 = .ok (.lmul, 1) := by decide +kernel
theorem dX9_format_60 : decode cX9_format 60 = .ok (.iload_n 3, 1) := by decide +kernel
theorem dX9_format_61 : decode cX9_format 61 = .ok (.invokevirtual 283, 3) := by decide +kernel
theorem dX9_format_64 : decode cX9_format 64 = .ok (.aload_n 0, 1) := by decide +kernel
theorem dX9_format_65 : decode cX9_format 65 = .ok (.getfield 53, 3) := by decide +kernel
theorem dX9_format_68 : decode cX9_format 68 = .ok (.getfield 287, 3) := by decide +kernel
theorem dX9_format_71 : decode cX9_format 71 = .ok (.ireturn, 1) := by decide +kernel
theorem dX9_formattedByte_0 : decode cX9_formattedByte 0 = .ok (.iload_n 1, 1) := by decide +kernel
theorem dX9_formattedByte_1 : decode cX9_formattedByte 1 = .ok (.ifCond .lt 14, 3) := by decide +kernel
theorem dX9_formattedByte_4 : decode cX9_formattedByte 4 = .ok (.iload_n 1, 1) := by decide +kernel
theorem dX9_formattedByte_5 : decode cX9_formattedByte 5 = .ok (.aload_n 0, 1) := by decide +kernel
theorem dX9_formattedByte_6 : decode cX9_formattedByte 6 = .ok (.getfield 53, 3) := by decide +kernel
theorem dX9_formattedByte_9 : decode cX9_formattedByte 9 = .ok (.getfield 287, 3) := by decide +kernel
theorem dX9_formattedByte_12 : decode cX9_formattedByte 12 = .ok (.if_icmp .lt 7, 3) := by decide +kernel
theorem dX9_formattedByte_15 : decode cX9_formattedByte 15 = .ok (.iconst (-1), 1) := by decide +kernel
theorem dX9_formattedByte_16 : decode cX9_formattedByte 16 = .ok (.goto 14, 3) := by decide +kernel
theorem dX9_formattedByte_19 : decode cX9_formattedByte 19 = .ok (.aload_n 0, 1) := by decide +kernel
theorem dX9_formattedByte_20 : decode cX9_formattedByte 20 = .ok (.getfield 53, 3) := by decide +kernel
theorem dX9_formattedByte_23 : decode cX9_formattedByte 23 = .ok (.getfield 290, 3) := by decide +kernel
theorem dX9_formattedByte_26 : decode cX9_formattedByte 26 = .ok (.iload_n 1, 1) := by decide +kernel
theorem dX9_formattedByte_27 : decode cX9_formattedByte 27 = .ok (.invokestatic 146, 3) := by decide +kernel
theorem dX9_formattedByte_30 : decode cX9_formattedByte 30 = .ok (.ireturn, 1) := by decide +kernel
theorem dX9_strips_0 : decode cX9_strips 0 = .ok (.iload_n 1, 1) := by decide +kernel
theorem dX9_strips_1 : decode cX9_strips 1 = .ok (.invokestatic 277, 3) := by decide +kernel
theorem dX9_strips_4 : decode cX9_strips 4 = .ok (.aload_n 0, 1) := by decide +kernel
theorem dX9_strips_5 : decode cX9_strips 5 = .ok (.getfield 44, 3) := by decide +kernel
theorem dX9_strips_8 : decode cX9_strips 8 = .ok (.invokevirtual 193, 3) := by decide +kernel
theorem dX9_strips_11 : decode cX9_strips 11 = .ok (.aload_n 0, 1) := by decide +kernel
theorem dX9_strips_12 : decode cX9_strips 12 = .ok (.getfield 53, 3) := by decide +kernel
theorem dX9_strips_15 : decode cX9_strips 15 = .ok (.invokevirtual 272, 3) := by decide +kernel
theorem dX9_strips_18 : decode cX9_strips 18 = .ok (.iload_n 1, 1) := by decide +kernel
theorem dX9_strips_19 : decode cX9_strips 19 = .ok (.iadd, 1) := by decide +kernel
theorem dX9_strips_20 : decode cX9_strips 20 = .ok (.iconst 1, 1) := by decide +kernel
theorem dX9_strips_21 : decode cX9_strips 21 = .ok (.isub, 1) := by decide +kernel
theorem dX9_strips_22 : decode cX9_strips 22 = .ok (.iload_n 1, 1) := by decide +kernel
theorem dX9_strips_23 : decode cX9_strips 23 = .ok (.idiv, 1) := by decide +kernel
theorem dX9_strips_24 : decode cX9_strips 24 = .ok (.ireturn, 1) := by decide +kernel
theorem dX9_cutBoxes_0 : decode cX9_cutBoxes 0 = .ok (.iload_n 1, 1) := by decide +kernel
theorem dX9_cutBoxes_1 : decode cX9_cutBoxes 1 = .ok (.invokestatic 277, 3) := by decide +kernel
theorem dX9_cutBoxes_4 : decode cX9_cutBoxes 4 = .ok (.aload_n 0, 1) := by decide +kernel
theorem dX9_cutBoxes_5 : decode cX9_cutBoxes 5 = .ok (.getfield 44, 3) := by decide +kernel
theorem dX9_cutBoxes_8 : decode cX9_cutBoxes 8 = .ok (.invokevirtual 193, 3) := by decide +kernel
theorem dX9_cutBoxes_11 : decode cX9_cutBoxes 11 = .ok (.aload_n 0, 1) := by decide +kernel
theorem dX9_cutBoxes_12 : decode cX9_cutBoxes 12 = .ok (.getfield 44, 3) := by decide +kernel
theorem dX9_cutBoxes_15 : decode cX9_cutBoxes 15 = .ok (.iload_n 1, 1) := by decide +kernel
theorem dX9_cutBoxes_16 : decode cX9_cutBoxes 16 = .ok (.invokevirtual 293, 3) := by decide +kernel
theorem dX9_cutBoxes_19 : decode cX9_cutBoxes 19 = .ok (.ireturn, 1) := by decide +kernel
theorem dX9_repeated_0 : decode cX9_repeated 0 = .ok (.aload_n 0, 1) := by decide +kernel
theorem dX9_repeated_1 : decode cX9_repeated 1 = .ok (.getfield 35, 3) := by decide +kernel
theorem dX9_repeated_4 : decode cX9_repeated 4 = .ok (.invokevirtual 129, 3) := by decide +kernel
theorem dX9_repeated_7 : decode cX9_repeated 7 = .ok (.istore_n 1, 1) := by decide +kernel
theorem dX9_repeated_8 : decode cX9_repeated 8 = .ok (.iload_n 1, 1) := by decide +kernel
theorem dX9_repeated_9 : decode cX9_repeated 9 = .ok (.ifCond .gt 5, 3) := by decide +kernel
theorem dX9_repeated_12 : decode cX9_repeated 12 = .ok (.fconst 0, 1) := by decide +kernel
theorem dX9_repeated_13 : decode cX9_repeated 13 = .ok (.freturn, 1) := by decide +kernel
theorem dX9_repeated_14 : decode cX9_repeated 14 = .ok (.iload_n 1, 1) := by decide +kernel
theorem dX9_repeated_15 : decode cX9_repeated 15 = .ok (.aload_n 0, 1) := by decide +kernel
theorem dX9_repeated_16 : decode cX9_repeated 16 = .ok (.getfield 19, 3) := by decide +kernel
theorem dX9_repeated_19 : decode cX9_repeated 19 = .ok (.getfield 117, 3) := by decide +kernel
theorem dX9_repeated_22 : decode cX9_repeated 22 = .ok (.isub, 1) := by decide +kernel
theorem dX9_repeated_23 : decode cX9_repeated 23 = .ok (.i2f, 1) := by decide +kernel
theorem dX9_repeated_24 : decode cX9_repeated 24 = .ok (.iload_n 1, 1) := by decide +kernel
theorem dX9_repeated_25 : decode cX9_repeated 25 = .ok (.i2f, 1) := by decide +kernel
theorem dX9_repeated_26 : decode cX9_repeated 26 = .ok (.fdiv, 1) := by decide +kernel
theorem dX9_repeated_27 : decode cX9_repeated 27 = .ok (.freturn, 1) := by decide +kernel
theorem dX9_inbreeding_0 : decode cX9_inbreeding 0 = .ok (.aload_n 0, 1) := by decide +kernel
theorem dX9_inbreeding_1 : decode cX9_inbreeding 1 = .ok (.getfield 19, 3) := by decide +kernel
theorem dX9_inbreeding_4 : decode cX9_inbreeding 4 = .ok (.getfield 123, 3) := by decide +kernel
theorem dX9_inbreeding_7 : decode cX9_inbreeding 7 = .ok (.ifCond .gt 5, 3) := by decide +kernel
theorem dX9_inbreeding_10 : decode cX9_inbreeding 10 = .ok (.dconst 0, 1) := by decide +kernel
theorem dX9_inbreeding_11 : decode cX9_inbreeding 11 = .ok (.dreturn, 1) := by decide +kernel
theorem dX9_inbreeding_12 : decode cX9_inbreeding 12 = .ok (.aload_n 0, 1) := by decide +kernel
theorem dX9_inbreeding_13 : decode cX9_inbreeding 13 = .ok (.getfield 28, 3) := by decide +kernel
theorem dX9_inbreeding_16 : decode cX9_inbreeding 16 = .ok (.invokevirtual 207, 3) := by decide +kernel
theorem dX9_inbreeding_19 : decode cX9_inbreeding 19 = .ok (.aload_n 0, 1) := by decide +kernel
theorem dX9_inbreeding_20 : decode cX9_inbreeding 20 = .ok (.getfield 28, 3) := by decide +kernel
theorem dX9_inbreeding_23 : decode cX9_inbreeding 23 = .ok (.invokevirtual 296, 3) := by decide +kernel
theorem dX9_inbreeding_26 : decode cX9_inbreeding 26 = .ok (.l2d, 1) := by decide +kernel
theorem dX9_inbreeding_27 : decode cX9_inbreeding 27 = .ok (.aload_n 0, 1) := by decide +kernel
theorem dX9_inbreeding_28 : decode cX9_inbreeding 28 = .ok (.getfield 19, 3) := by decide +kernel
theorem dX9_inbreeding_31 : decode cX9_inbreeding 31 = .ok (.getfield 123, 3) := by decide +kernel
theorem dX9_inbreeding_34 : decode cX9_inbreeding 34 = .ok (.i2l, 1) := by decide +kernel
theorem dX9_inbreeding_35 : decode cX9_inbreeding 35 = .ok (.ldc2_w 300, 3) := by decide +kernel
theorem dX9_inbreeding_38 : decode cX9_inbreeding 38 = .ok (.lmul, 1) := by decide +kernel
theorem dX9_inbreeding_39 : decode cX9_inbreeding 39 = .ok (.l2d, 1) := by decide +kernel
theorem dX9_inbreeding_40 : decode cX9_inbreeding 40 = .ok (.ddiv, 1) := by decide +kernel
theorem dX9_inbreeding_41 : decode cX9_inbreeding 41 = .ok (.dreturn, 1) := by decide +kernel
theorem dX9_marry_0 : decode cX9_marry 0 = .ok (.aload_n 0, 1) := by decide +kernel
theorem dX9_marry_1 : decode cX9_marry 1 = .ok (.iload_n 1, 1) := by decide +kernel
theorem dX9_marry_2 : decode cX9_marry 2 = .ok (.invokevirtual 139, 3) := by decide +kernel
theorem dX9_marry_5 : decode cX9_marry 5 = .ok (.aload_n 0, 1) := by decide +kernel
theorem dX9_marry_6 : decode cX9_marry 6 = .ok (.iload_n 2, 1) := by decide +kernel
theorem dX9_marry_7 : decode cX9_marry 7 = .ok (.invokevirtual 139, 3) := by decide +kernel
theorem dX9_marry_10 : decode cX9_marry 10 = .ok (.iload_n 3, 1) := by decide +kernel
theorem dX9_marry_11 : decode cX9_marry 11 = .ok (.ifCond .lt 10, 3) := by decide +kernel
theorem dX9_marry_14 : decode cX9_marry 14 = .ok (.iload_n 3, 1) := by decide +kernel
theorem dX9_marry_15 : decode cX9_marry 15 = .ok (.sipush 2100, 3) := by decide +kernel
theorem dX9_marry_18 : decode cX9_marry 18 = .ok (.if_icmp .le 14, 3) := by decide +kernel
theorem dX9_marry_21 : decode cX9_marry 21 = .ok (.new 94, 3) := by decide +kernel
theorem dX9_marry_24 : decode cX9_marry 24 = .ok (.dup, 1) := by decide +kernel
theorem dX9_marry_25 : decode cX9_marry 25 = .ok (.ldc_w 302, 3) := by decide +kernel
theorem dX9_marry_28 : decode cX9_marry 28 = .ok (.invokespecial 98, 3) := by decide +kernel
theorem dX9_marry_31 : decode cX9_marry 31 = .ok (.athrow, 1) := by decide +kernel
theorem dX9_marry_32 : decode cX9_marry 32 = .ok (.iload_n 1, 1) := by decide +kernel
theorem dX9_marry_33 : decode cX9_marry 33 = .ok (.iload_n 2, 1) := by decide +kernel
theorem dX9_marry_34 : decode cX9_marry 34 = .ok (.if_icmp .eq 16, 3) := by decide +kernel
theorem dX9_marry_37 : decode cX9_marry 37 = .ok (.aload_n 0, 1) := by decide +kernel
theorem dX9_marry_38 : decode cX9_marry 38 = .ok (.getfield 19, 3) := by decide +kernel
theorem dX9_marry_41 : decode cX9_marry 41 = .ok (.iload_n 1, 1) := by decide +kernel
theorem dX9_marry_42 : decode cX9_marry 42 = .ok (.iload_n 2, 1) := by decide +kernel
theorem dX9_marry_43 : decode cX9_marry 43 = .ok (.invokevirtual 304, 3) := by decide +kernel
theorem dX9_marry_46 : decode cX9_marry 46 = .ok (.iconst (-1), 1) := by decide +kernel
theorem dX9_marry_47 : decode cX9_marry 47 = .ok (.if_icmp .eq 6, 3) := by decide +kernel
theorem dX9_marry_50 : decode cX9_marry 50 = .ok (.bipush (-2), 2) := by decide +kernel
theorem dX9_marry_52 : decode cX9_marry 52 = .ok (.ireturn, 1) := by decide +kernel
theorem dX9_marry_53 : decode cX9_marry 53 = .ok (.aload_n 0, 1) := by decide +kernel
theorem dX9_marry_54 : decode cX9_marry 54 = .ok (.getfield 19, 3) := by decide +kernel
theorem dX9_marry_57 : decode cX9_marry 57 = .ok (.getfield 123, 3) := by decide +kernel
theorem dX9_marry_60 : decode cX9_marry 60 = .ok (.bipush 12, 2) := by decide +kernel
theorem dX9_marry_62 : decode cX9_marry 62 = .ok (.if_icmp .lt 6, 3) := by decide +kernel
theorem dX9_marry_65 : decode cX9_marry 65 = .ok (.bipush (-3), 2) := by decide +kernel
theorem dX9_marry_67 : decode cX9_marry 67 = .ok (.ireturn, 1) := by decide +kernel
theorem dX9_marry_68 : decode cX9_marry 68 = .ok (.aload_n 0, 1) := by decide +kernel
theorem dX9_marry_69 : decode cX9_marry 69 = .ok (.getfield 60, 3) := by decide +kernel
theorem dX9_marry_72 : decode cX9_marry 72 = .ok (.invokevirtual 307, 3) := by decide +kernel
theorem dX9_marry_75 : decode cX9_marry 75 = .ok (.aload_n 0, 1) := by decide +kernel
theorem dX9_marry_76 : decode cX9_marry 76 = .ok (.getfield 19, 3) := by decide +kernel
theorem dX9_marry_79 : decode cX9_marry 79 = .ok (.iload_n 1, 1) := by decide +kernel
theorem dX9_marry_80 : decode cX9_marry 80 = .ok (.iload_n 2, 1) := by decide +kernel
theorem dX9_marry_81 : decode cX9_marry 81 = .ok (.iload_n 3, 1) := by decide +kernel
theorem dX9_marry_82 : decode cX9_marry 82 = .ok (.invokevirtual 310, 3) := by decide +kernel
theorem dX9_marry_85 : decode cX9_marry 85 = .ok (.istore 4, 2) := by decide +kernel
theorem dX9_marry_87 : decode cX9_marry 87 = .ok (.aload_n 0, 1) := by decide +kernel
theorem dX9_marry_88 : decode cX9_marry 88 = .ok (.invokevirtual 314, 3) := by decide +kernel
theorem dX9_marry_91 : decode cX9_marry 91 = .ok (.iload 4, 2) := by decide +kernel
theorem dX9_marry_93 : decode cX9_marry 93 = .ok (.ireturn, 1) := by decide +kernel
theorem dX9_adopt_0 : decode cX9_adopt 0 = .ok (.aload_n 0, 1) := by decide +kernel
theorem dX9_adopt_1 : decode cX9_adopt 1 = .ok (.iload_n 1, 1) := by decide +kernel
theorem dX9_adopt_2 : decode cX9_adopt 2 = .ok (.invokevirtual 167, 3) := by decide +kernel
theorem dX9_adopt_5 : decode cX9_adopt 5 = .ok (.aload_n 0, 1) := by decide +kernel
theorem dX9_adopt_6 : decode cX9_adopt 6 = .ok (.iload_n 2, 1) := by decide +kernel
theorem dX9_adopt_7 : decode cX9_adopt 7 = .ok (.invokevirtual 139, 3) := by decide +kernel
theorem dX9_adopt_10 : decode cX9_adopt 10 = .ok (.aload_n 0, 1) := by decide +kernel
theorem dX9_adopt_11 : decode cX9_adopt 11 = .ok (.getfield 19, 3) := by decide +kernel
theorem dX9_adopt_14 : decode cX9_adopt 14 = .ok (.iload_n 2, 1) := by decide +kernel
theorem dX9_adopt_15 : decode cX9_adopt 15 = .ok (.invokevirtual 317, 3) := by decide +kernel
theorem dX9_adopt_18 : decode cX9_adopt 18 = .ok (.ifCond .eq 6, 3) := by decide +kernel
theorem dX9_adopt_21 : decode cX9_adopt 21 = .ok (.bipush (-2), 2) := by decide +kernel
theorem dX9_adopt_23 : decode cX9_adopt 23 = .ok (.ireturn, 1) := by decide +kernel
theorem dX9_adopt_24 : decode cX9_adopt 24 = .ok (.aload_n 0, 1) := by decide +kernel
theorem dX9_adopt_25 : decode cX9_adopt 25 = .ok (.getfield 19, 3) := by decide +kernel
theorem dX9_adopt_28 : decode cX9_adopt 28 = .ok (.iload_n 1, 1) := by decide +kernel
theorem dX9_adopt_29 : decode cX9_adopt 29 = .ok (.iload_n 2, 1) := by decide +kernel
theorem dX9_adopt_30 : decode cX9_adopt 30 = .ok (.invokevirtual 321, 3) := by decide +kernel
theorem dX9_adopt_33 : decode cX9_adopt 33 = .ok (.ifCond .eq 6, 3) := by decide +kernel
theorem dX9_adopt_36 : decode cX9_adopt 36 = .ok (.bipush (-3), 2) := by decide +kernel
theorem dX9_adopt_38 : decode cX9_adopt 38 = .ok (.ireturn, 1) := by decide +kernel
theorem dX9_adopt_39 : decode cX9_adopt 39 = .ok (.aload_n 0, 1) := by decide +kernel
theorem dX9_adopt_40 : decode cX9_adopt 40 = .ok (.getfield 60, 3) := by decide +kernel
