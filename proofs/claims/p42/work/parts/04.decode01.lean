theorem dX7_bringOrder_0 : decode cX7_bringOrder 0 = .ok (.aload_n 0, 1) := by decide +kernel
theorem dX7_bringOrder_1 : decode cX7_bringOrder 1 = .ok (.invokevirtual 90, 3) := by decide +kernel
theorem dX7_bringOrder_4 : decode cX7_bringOrder 4 = .ok (.aload_n 1, 1) := by decide +kernel
theorem dX7_bringOrder_5 : decode cX7_bringOrder 5 = .ok (.iload_n 2, 1) := by decide +kernel
theorem dX7_bringOrder_6 : decode cX7_bringOrder 6 = .ok (.aload_n 0, 1) := by decide +kernel
theorem dX7_bringOrder_7 : decode cX7_bringOrder 7 = .ok (.getfield 9, 3) := by decide +kernel
theorem dX7_bringOrder_10 : decode cX7_bringOrder 10 = .ok (.iconst 0, 1) := by decide +kernel
theorem dX7_bringOrder_11 : decode cX7_bringOrder 11 = .ok (.bipush 28, 2) := by decide +kernel
theorem dX7_bringOrder_13 : decode cX7_bringOrder 13 = .ok (.invokestatic 86, 3) := by decide +kernel
theorem dX7_bringOrder_16 : decode cX7_bringOrder 16 = .ok (.aload_n 0, 1) := by decide +kernel
theorem dX7_bringOrder_17 : decode cX7_bringOrder 17 = .ok (.invokevirtual 51, 3) := by decide +kernel
theorem dX7_bringOrder_20 : decode cX7_bringOrder 20 = .ok (.return_, 1) := by decide +kernel
theorem dX7_boxCount_0 : decode cX7_boxCount 0 = .ok (.aload_n 0, 1) := by decide +kernel
theorem dX7_boxCount_1 : decode cX7_boxCount 1 = .ok (.getfield 15, 3) := by decide +kernel
theorem dX7_boxCount_4 : decode cX7_boxCount 4 = .ok (.aload_n 0, 1) := by decide +kernel
theorem dX7_boxCount_5 : decode cX7_boxCount 5 = .ok (.getfield 30, 3) := by decide +kernel
theorem dX7_boxCount_8 : decode cX7_boxCount 8 = .ok (.getfield 37, 3) := by decide +kernel
theorem dX7_boxCount_11 : decode cX7_boxCount 11 = .ok (.invokestatic 60, 3) := by decide +kernel
theorem dX7_boxCount_14 : decode cX7_boxCount 14 = .ok (.ireturn, 1) := by decide +kernel
theorem dX7_boxCountOf_0 : decode cX7_boxCountOf 0 = .ok (.aload_n 0, 1) := by decide +kernel
theorem dX7_boxCountOf_1 : decode cX7_boxCountOf 1 = .ok (.getfield 15, 3) := by decide +kernel
theorem dX7_boxCountOf_4 : decode cX7_boxCountOf 4 = .ok (.iload_n 1, 1) := by decide +kernel
theorem dX7_boxCountOf_5 : decode cX7_boxCountOf 5 = .ok (.iconst 1, 1) := by decide +kernel
theorem dX7_boxCountOf_6 : decode cX7_boxCountOf 6 = .ok (.iadd, 1) := by decide +kernel
theorem dX7_boxCountOf_7 : decode cX7_boxCountOf 7 = .ok (.invokestatic 60, 3) := by decide +kernel
theorem dX7_boxCountOf_10 : decode cX7_boxCountOf 10 = .ok (.aload_n 0, 1) := by decide +kernel
theorem dX7_boxCountOf_11 : decode cX7_boxCountOf 11 = .ok (.getfield 15, 3) := by decide +kernel
theorem dX7_boxCountOf_14 : decode cX7_boxCountOf 14 = .ok (.iload_n 1, 1) := by decide +kernel
theorem dX7_boxCountOf_15 : decode cX7_boxCountOf 15 = .ok (.invokestatic 60, 3) := by decide +kernel
theorem dX7_boxCountOf_18 : decode cX7_boxCountOf 18 = .ok (.isub, 1) := by decide +kernel
theorem dX7_boxCountOf_19 : decode cX7_boxCountOf 19 = .ok (.ireturn, 1) := by decide +kernel
theorem dX7_boxAt_0 : decode cX7_boxAt 0 = .ok (.aload_n 0, 1) := by decide +kernel
theorem dX7_boxAt_1 : decode cX7_boxAt 1 = .ok (.getfield 9, 3) := by decide +kernel
theorem dX7_boxAt_4 : decode cX7_boxAt 4 = .ok (.aload_n 0, 1) := by decide +kernel
theorem dX7_boxAt_5 : decode cX7_boxAt 5 = .ok (.getfield 15, 3) := by decide +kernel
theorem dX7_boxAt_8 : decode cX7_boxAt 8 = .ok (.iload_n 1, 1) := by decide +kernel
theorem dX7_boxAt_9 : decode cX7_boxAt 9 = .ok (.invokestatic 60, 3) := by decide +kernel
theorem dX7_boxAt_12 : decode cX7_boxAt 12 = .ok (.iload_n 2, 1) := by decide +kernel
theorem dX7_boxAt_13 : decode cX7_boxAt 13 = .ok (.iadd, 1) := by decide +kernel
theorem dX7_boxAt_14 : decode cX7_boxAt 14 = .ok (.invokestatic 60, 3) := by decide +kernel
theorem dX7_boxAt_17 : decode cX7_boxAt 17 = .ok (.ireturn, 1) := by decide +kernel
theorem dX7_personOf_0 : decode cX7_personOf 0 = .ok (.iload_n 1, 1) := by decide +kernel
theorem dX7_personOf_1 : decode cX7_personOf 1 = .ok (.bipush 16, 2) := by decide +kernel
theorem dX7_personOf_3 : decode cX7_personOf 3 = .ok (.if_icmp .ge 7, 3) := by decide +kernel
theorem dX7_personOf_6 : decode cX7_personOf 6 = .ok (.iload_n 1, 1) := by decide +kernel
theorem dX7_personOf_7 : decode cX7_personOf 7 = .ok (.goto 17, 3) := by decide +kernel
theorem dX7_personOf_10 : decode cX7_personOf 10 = .ok (.aload_n 0, 1) := by decide +kernel
theorem dX7_personOf_11 : decode cX7_personOf 11 = .ok (.getfield 30, 3) := by decide +kernel
theorem dX7_personOf_14 : decode cX7_personOf 14 = .ok (.getfield 57, 3) := by decide +kernel
theorem dX7_personOf_17 : decode cX7_personOf 17 = .ok (.iload_n 1, 1) := by decide +kernel
theorem dX7_personOf_18 : decode cX7_personOf 18 = .ok (.invokestatic 93, 3) := by decide +kernel
theorem dX7_personOf_21 : decode cX7_personOf 21 = .ok (.invokestatic 60, 3) := by decide +kernel
theorem dX7_personOf_24 : decode cX7_personOf 24 = .ok (.ireturn, 1) := by decide +kernel
theorem dX7_middleOf_0 : decode cX7_middleOf 0 = .ok (.aload_n 0, 1) := by decide +kernel
theorem dX7_middleOf_1 : decode cX7_middleOf 1 = .ok (.getfield 18, 3) := by decide +kernel
theorem dX7_middleOf_4 : decode cX7_middleOf 4 = .ok (.aload_n 0, 1) := by decide +kernel
theorem dX7_middleOf_5 : decode cX7_middleOf 5 = .ok (.getfield 21, 3) := by decide +kernel
theorem dX7_middleOf_8 : decode cX7_middleOf 8 = .ok (.iload_n 1, 1) := by decide +kernel
theorem dX7_middleOf_9 : decode cX7_middleOf 9 = .ok (.invokestatic 60, 3) := by decide +kernel
theorem dX7_middleOf_12 : decode cX7_middleOf 12 = .ok (.invokestatic 60, 3) := by decide +kernel
theorem dX7_middleOf_15 : decode cX7_middleOf 15 = .ok (.aload_n 0, 1) := by decide +kernel
theorem dX7_middleOf_16 : decode cX7_middleOf 16 = .ok (.getfield 18, 3) := by decide +kernel
theorem dX7_middleOf_19 : decode cX7_middleOf 19 = .ok (.aload_n 0, 1) := by decide +kernel
theorem dX7_middleOf_20 : decode cX7_middleOf 20 = .ok (.getfield 24, 3) := by decide +kernel
theorem dX7_middleOf_23 : decode cX7_middleOf 23 = .ok (.iload_n 1, 1) := by decide +kernel
theorem dX7_middleOf_24 : decode cX7_middleOf 24 = .ok (.invokestatic 60, 3) := by decide +kernel
theorem dX7_middleOf_27 : decode cX7_middleOf 27 = .ok (.invokestatic 60, 3) := by decide +kernel
theorem dX7_middleOf_30 : decode cX7_middleOf 30 = .ok (.iadd, 1) := by decide +kernel
theorem dX7_middleOf_31 : decode cX7_middleOf 31 = .ok (.ireturn, 1) := by decide +kernel
theorem dX7_exchange_0 : decode cX7_exchange 0 = .ok (.aload_n 0, 1) := by decide +kernel
theorem dX7_exchange_1 : decode cX7_exchange 1 = .ok (.iload_n 1, 1) := by decide +kernel
theorem dX7_exchange_2 : decode cX7_exchange 2 = .ok (.iload_n 2, 1) := by decide +kernel
theorem dX7_exchange_3 : decode cX7_exchange 3 = .ok (.invokevirtual 83, 3) := by decide +kernel
theorem dX7_exchange_6 : decode cX7_exchange 6 = .ok (.istore 4, 2) := by decide +kernel
theorem dX7_exchange_8 : decode cX7_exchange 8 = .ok (.aload_n 0, 1) := by decide +kernel
theorem dX7_exchange_9 : decode cX7_exchange 9 = .ok (.iload_n 1, 1) := by decide +kernel
theorem dX7_exchange_10 : decode cX7_exchange 10 = .ok (.iload_n 3, 1) := by decide +kernel
theorem dX7_exchange_11 : decode cX7_exchange 11 = .ok (.invokevirtual 83, 3) := by decide +kernel
theorem dX7_exchange_14 : decode cX7_exchange 14 = .ok (.istore 5, 2) := by decide +kernel
theorem dX7_exchange_16 : decode cX7_exchange 16 = .ok (.aload_n 0, 1) := by decide +kernel
theorem dX7_exchange_17 : decode cX7_exchange 17 = .ok (.getfield 9, 3) := by decide +kernel
theorem dX7_exchange_20 : decode cX7_exchange 20 = .ok (.aload_n 0, 1) := by decide +kernel
theorem dX7_exchange_21 : decode cX7_exchange 21 = .ok (.getfield 15, 3) := by decide +kernel
theorem dX7_exchange_24 : decode cX7_exchange 24 = .ok (.iload_n 1, 1) := by decide +kernel
theorem dX7_exchange_25 : decode cX7_exchange 25 = .ok (.invokestatic 60, 3) := by decide +kernel
theorem dX7_exchange_28 : decode cX7_exchange 28 = .ok (.iload_n 2, 1) := by decide +kernel
theorem dX7_exchange_29 : decode cX7_exchange 29 = .ok (.iadd, 1) := by decide +kernel
theorem dX7_exchange_30 : decode cX7_exchange 30 = .ok (.iload 5, 2) := by decide +kernel
theorem dX7_exchange_32 : decode cX7_exchange 32 = .ok (.invokestatic 43, 3) := by decide +kernel
theorem dX7_exchange_35 : decode cX7_exchange 35 = .ok (.aload_n 0, 1) := by decide +kernel
theorem dX7_exchange_36 : decode cX7_exchange 36 = .ok (.getfield 9, 3) := by decide +kernel
theorem dX7_exchange_39 : decode cX7_exchange 39 = .ok (.aload_n 0, 1) := by decide +kernel
theorem dX7_exchange_40 : decode cX7_exchange 40 = .ok (.getfield 15, 3) := by decide +kernel
theorem dX7_exchange_43 : decode cX7_exchange 43 = .ok (.iload_n 1, 1) := by decide +kernel
theorem dX7_exchange_44 : decode cX7_exchange 44 = .ok (.invokestatic 60, 3) := by decide +kernel
theorem dX7_exchange_47 : decode cX7_exchange 47 = .ok (.iload_n 3, 1) := by decide +kernel
theorem dX7_exchange_48 : decode cX7_exchange 48 = .ok (.iadd, 1) := by decide +kernel
theorem dX7_exchange_49 : decode cX7_exchange 49 = .ok (.iload 4, 2) := by decide +kernel
theorem dX7_exchange_51 : decode cX7_exchange 51 = .ok (.invokestatic 43, 3) := by decide +kernel
theorem dX7_exchange_54 : decode cX7_exchange 54 = .ok (.aload_n 0, 1) := by decide +kernel
theorem dX7_exchange_55 : decode cX7_exchange 55 = .ok (.getfield 18, 3) := by decide +kernel
theorem dX7_exchange_58 : decode cX7_exchange 58 = .ok (.iload 5, 2) := by decide +kernel
theorem dX7_exchange_60 : decode cX7_exchange 60 = .ok (.iload_n 2, 1) := by decide +kernel
theorem dX7_exchange_61 : decode cX7_exchange 61 = .ok (.invokestatic 43, 3) := by decide +kernel
theorem dX7_exchange_64 : decode cX7_exchange 64 = .ok (.aload_n 0, 1) := by decide +kernel
theorem dX7_exchange_65 : decode cX7_exchange 65 = .ok (.getfield 18, 3) := by decide +kernel
theorem dX7_exchange_68 : decode cX7_exchange 68 = .ok (.iload 4, 2) := by decide +kernel
theorem dX7_exchange_70 : decode cX7_exchange 70 = .ok (.iload_n 3, 1) := by decide +kernel
theorem dX7_exchange_71 : decode cX7_exchange 71 = .ok (.invokestatic 43, 3) := by decide +kernel
theorem dX7_exchange_74 : decode cX7_exchange 74 = .ok (.return_, 1) := by decide +kernel
theorem dX7_countAllCrossings_0 : decode cX7_countAllCrossings 0 = .ok (.iconst 0, 1) := by decide +kernel
theorem dX7_countAllCrossings_1 : decode cX7_countAllCrossings 1 = .ok (.istore_n 1, 1) := by decide +kernel
theorem dX7_countAllCrossings_2 : decode cX7_countAllCrossings 2 = .ok (.iconst 0, 1) := by decide +kernel
theorem dX7_countAllCrossings_3 : decode cX7_countAllCrossings 3 = .ok (.istore_n 2, 1) := by decide +kernel
theorem dX7_countAllCrossings_4 : decode cX7_countAllCrossings 4 = .ok (.iload_n 2, 1) := by decide +kernel
theorem dX7_countAllCrossings_5 : decode cX7_countAllCrossings 5 = .ok (.aload_n 0, 1) := by decide +kernel
theorem dX7_countAllCrossings_6 : decode cX7_countAllCrossings 6 = .ok (.getfield 30, 3) := by decide +kernel
theorem dX7_countAllCrossings_9 : decode cX7_countAllCrossings 9 = .ok (.getfield 37, 3) := by decide +kernel
theorem dX7_countAllCrossings_12 : decode cX7_countAllCrossings 12 = .ok (.if_icmp .ge 23, 3) := by decide +kernel
theorem dX7_countAllCrossings_15 : decode cX7_countAllCrossings 15 = .ok (.iload_n 1, 1) := by decide +kernel
theorem dX7_countAllCrossings_16 : decode cX7_countAllCrossings 16 = .ok (.aload_n 0, 1) := by decide +kernel
theorem dX7_countAllCrossings_17 : decode cX7_countAllCrossings 17 = .ok (.iload_n 2, 1) := by decide +kernel
theorem dX7_countAllCrossings_18 : decode cX7_countAllCrossings 18 = .ok (.invokevirtual 96, 3) := by decide +kernel
theorem dX7_countAllCrossings_21 : decode cX7_countAllCrossings 21 = .ok (.aload_n 0, 1) := by decide +kernel
theorem dX7_countAllCrossings_22 : decode cX7_countAllCrossings 22 = .ok (.iload_n 2, 1) := by decide +kernel
theorem dX7_countAllCrossings_23 : decode cX7_countAllCrossings 23 = .ok (.invokevirtual 99, 3) := by decide +kernel
theorem dX7_countAllCrossings_26 : decode cX7_countAllCrossings 26 = .ok (.iadd, 1) := by decide +kernel
theorem dX7_countAllCrossings_27 : decode cX7_countAllCrossings 27 = .ok (.iadd, 1) := by decide +kernel
theorem dX7_countAllCrossings_28 : decode cX7_countAllCrossings 28 = .ok (.istore_n 1, 1) := by decide +kernel
theorem dX7_countAllCrossings_29 : decode cX7_countAllCrossings 29 = .ok (.iinc 2 1, 3) := by decide +kernel
theorem dX7_countAllCrossings_32 : decode cX7_countAllCrossings 32 = .ok (.goto (-28), 3) := by decide +kernel
theorem dX7_countAllCrossings_35 : decode cX7_countAllCrossings 35 = .ok (.iload_n 1, 1) := by decide +kernel
theorem dX7_countAllCrossings_36 : decode cX7_countAllCrossings 36 = .ok (.ireturn, 1) := by decide +kernel
theorem dX7_countCrossingsIn_0 : decode cX7_countCrossingsIn 0 = .ok (.iconst 0, 1) := by decide +kernel
theorem dX7_countCrossingsIn_1 : decode cX7_countCrossingsIn 1 = .ok (.istore_n 2, 1) := by decide +kernel
theorem dX7_countCrossingsIn_2 : decode cX7_countCrossingsIn 2 = .ok (.iconst 0, 1) := by decide +kernel
theorem dX7_countCrossingsIn_3 : decode cX7_countCrossingsIn 3 = .ok (.istore_n 3, 1) := by decide +kernel
theorem dX7_countCrossingsIn_4 : decode cX7_countCrossingsIn 4 = .ok (.iload_n 3, 1) := by decide +kernel
theorem dX7_countCrossingsIn_5 : decode cX7_countCrossingsIn 5 = .ok (.aload_n 0, 1) := by decide +kernel
theorem dX7_countCrossingsIn_6 : decode cX7_countCrossingsIn 6 = .ok (.getfield 30, 3) := by decide +kernel
theorem dX7_countCrossingsIn_9 : decode cX7_countCrossingsIn 9 = .ok (.getfield 54, 3) := by decide +kernel
theorem dX7_countCrossingsIn_12 : decode cX7_countCrossingsIn 12 = .ok (.if_icmp .ge 33, 3) := by decide +kernel
theorem dX7_countCrossingsIn_15 : decode cX7_countCrossingsIn 15 = .ok (.aload_n 0, 1) := by decide +kernel
theorem dX7_countCrossingsIn_16 : decode cX7_countCrossingsIn 16 = .ok (.getfield 30, 3) := by decide +kernel
theorem dX7_countCrossingsIn_19 : decode cX7_countCrossingsIn 19 = .ok (.getfield 76, 3) := by decide +kernel
theorem dX7_countCrossingsIn_22 : decode cX7_countCrossingsIn 22 = .ok (.iload_n 3, 1) := by decide +kernel
theorem dX7_countCrossingsIn_23 : decode cX7_countCrossingsIn 23 = .ok (.invokestatic 60, 3) := by decide +kernel
theorem dX7_countCrossingsIn_26 : decode cX7_countCrossingsIn 26 = .ok (.iload_n 1, 1) := by decide +kernel
theorem dX7_countCrossingsIn_27 : decode cX7_countCrossingsIn 27 = .ok (.if_icmp .ne 12, 3) := by decide +kernel
theorem dX7_countCrossingsIn_30 : decode cX7_countCrossingsIn 30 = .ok (.iload_n 2, 1) := by decide +kernel
theorem dX7_countCrossingsIn_31 : decode cX7_countCrossingsIn 31 = .ok (.aload_n 0, 1) := by decide +kernel
theorem dX7_countCrossingsIn_32 : decode cX7_countCrossingsIn 32 = .ok (.iload_n 3, 1) := by decide +kernel
theorem dX7_countCrossingsIn_33 : decode cX7_countCrossingsIn 33 = .ok (.iload_n 1, 1) := by decide +kernel
theorem dX7_countCrossingsIn_34 : decode cX7_countCrossingsIn 34 = .ok (.invokevirtual 102, 3) := by decide +kernel
theorem dX7_countCrossingsIn_37 : decode cX7_countCrossingsIn 37 = .ok (.iadd, 1) := by decide +kernel
theorem dX7_countCrossingsIn_38 : decode cX7_countCrossingsIn 38 = .ok (.istore_n 2, 1) := by decide +kernel
theorem dX7_countCrossingsIn_39 : decode cX7_countCrossingsIn 39 = .ok (.iinc 3 1, 3) := by decide +kernel
theorem dX7_countCrossingsIn_42 : decode cX7_countCrossingsIn 42 = .ok (.goto (-38), 3) := by decide +kernel
theorem dX7_countCrossingsIn_45 : decode cX7_countCrossingsIn 45 = .ok (.iload_n 2, 1) := by decide +kernel
theorem dX7_countCrossingsIn_46 : decode cX7_countCrossingsIn 46 = .ok (.ireturn, 1) := by decide +kernel
theorem dX7_countCrossed_0 : decode cX7_countCrossed 0 = .ok (.iconst 0, 1) := by decide +kernel
theorem dX7_countCrossed_1 : decode cX7_countCrossed 1 = .ok (.istore_n 3, 1) := by decide +kernel
theorem dX7_countCrossed_2 : decode cX7_countCrossed 2 = .ok (.iload_n 1, 1) := by decide +kernel
theorem dX7_countCrossed_3 : decode cX7_countCrossed 3 = .ok (.iconst 1, 1) := by decide +kernel
theorem dX7_countCrossed_4 : decode cX7_countCrossed 4 = .ok (.iadd, 1) := by decide +kernel
theorem dX7_countCrossed_5 : decode cX7_countCrossed 5 = .ok (.istore 4, 2) := by decide +kernel
theorem dX7_countCrossed_7 : decode cX7_countCrossed 7 = .ok (.iload 4, 2) := by decide +kernel
theorem dX7_countCrossed_9 : decode cX7_countCrossed 9 = .ok (.aload_n 0, 1) := by decide +kernel
theorem dX7_countCrossed_10 : decode cX7_countCrossed 10 = .ok (.getfield 30, 3) := by decide +kernel
theorem dX7_countCrossed_13 : decode cX7_countCrossed 13 = .ok (.getfield 54, 3) := by decide +kernel
theorem dX7_countCrossed_16 : decode cX7_countCrossed 16 = .ok (.if_icmp .ge 38, 3) := by decide +kernel
theorem dX7_countCrossed_19 : decode cX7_countCrossed 19 = .ok (.aload_n 0, 1) := by decide +kernel
theorem dX7_countCrossed_20 : decode cX7_countCrossed 20 = .ok (.getfield 30, 3) := by decide +kernel
theorem dX7_countCrossed_23 : decode cX7_countCrossed 23 = .ok (.getfield 76, 3) := by decide +kernel
theorem dX7_countCrossed_26 : decode cX7_countCrossed 26 = .ok (.iload 4, 2) := by decide +kernel
theorem dX7_countCrossed_28 : decode cX7_countCrossed 28 = .ok (.invokestatic 60, 3) := by decide +kernel
theorem dX7_countCrossed_31 : decode cX7_countCrossed 31 = .ok (.iload_n 2, 1) := by decide +kernel
theorem dX7_countCrossed_32 : decode cX7_countCrossed 32 = .ok (.if_icmp .ne 16, 3) := by decide +kernel
theorem dX7_countCrossed_35 : decode cX7_countCrossed 35 = .ok (.aload_n 0, 1) := by decide +kernel
theorem dX7_countCrossed_36 : decode cX7_countCrossed 36 = .ok (.iload_n 1, 1) := by decide +kernel
theorem dX7_countCrossed_37 : decode cX7_countCrossed 37 = .ok (.iload 4, 2) := by decide +kernel
theorem dX7_countCrossed_39 : decode cX7_countCrossed 39 = .ok (.invokevirtual 105, 3) := by decide +kernel
theorem dX7_countCrossed_42 : decode cX7_countCrossed 42 = .ok (.ifCond .eq 6, 3) := by decide +kernel
theorem dX7_countCrossed_45 : decode cX7_countCrossed 45 = .ok (.iinc 3 1, 3) := by decide +kernel
theorem dX7_countCrossed_48 : decode cX7_countCrossed 48 = .ok (.iinc 4 1, 3) := by decide +kernel
theorem dX7_countCrossed_51 : decode cX7_countCrossed 51 = .ok (.goto (-44), 3) := by decide +kernel
theorem dX7_countCrossed_54 : decode cX7_countCrossed 54 = .ok (.iload_n 3, 1) := by decide +kernel
theorem dX7_countCrossed_55 : decode cX7_countCrossed 55 = .ok (.ireturn, 1) := by decide +kernel
theorem dX7_cross_0 : decode cX7_cross 0 = .ok (.aload_n 0, 1) := by decide +kernel
theorem dX7_cross_1 : decode cX7_cross 1 = .ok (.getfield 18, 3) := by decide +kernel
theorem dX7_cross_4 : decode cX7_cross 4 = .ok (.aload_n 0, 1) := by decide +kernel
theorem dX7_cross_5 : decode cX7_cross 5 = .ok (.getfield 21, 3) := by decide +kernel
theorem dX7_cross_8 : decode cX7_cross 8 = .ok (.iload_n 1, 1) := by decide +kernel
theorem dX7_cross_9 : decode cX7_cross 9 = .ok (.invokestatic 60, 3) := by decide +kernel
theorem dX7_cross_12 : decode cX7_cross 12 = .ok (.invokestatic 60, 3) := by decide +kernel
theorem dX7_cross_15 : decode cX7_cross 15 = .ok (.istore_n 3, 1) := by decide +kernel
theorem dX7_cross_16 : decode cX7_cross 16 = .ok (.aload_n 0, 1) := by decide +kernel
theorem dX7_cross_17 : decode cX7_cross 17 = .ok (.getfield 18, 3) := by decide +kernel
theorem dX7_cross_20 : decode cX7_cross 20 = .ok (.aload_n 0, 1) := by decide +kernel
theorem dX7_cross_21 : decode cX7_cross 21 = .ok (.getfield 24, 3) := by decide +kernel
theorem dX7_cross_24 : decode cX7_cross 24 = .ok (.iload_n 1, 1) := by decide +kernel
theorem dX7_cross_25 : decode cX7_cross 25 = .ok (.invokestatic 60, 3) := by decide +kernel
theorem dX7_cross_28 : decode cX7_cross 28 = .ok (.invokestatic 60, 3) := by decide +kernel
theorem dX7_cross_31 : decode cX7_cross 31 = .ok (.istore 4, 2) := by decide +kernel
theorem dX7_cross_33 : decode cX7_cross 33 = .ok (.aload_n 0, 1) := by decide +kernel
theorem dX7_cross_34 : decode cX7_cross 34 = .ok (.getfield 18, 3) := by decide +kernel
theorem dX7_cross_37 : decode cX7_cross 37 = .ok (.aload_n 0, 1) := by decide +kernel
theorem dX7_cross_38 : decode cX7_cross 38 = .ok (.getfield 21, 3) := by decide +kernel
theorem dX7_cross_41 : decode cX7_cross 41 = .ok (.iload_n 2, 1) := by decide +kernel
theorem dX7_cross_42 : decode cX7_cross 42 = .ok (.invokestatic 60, 3) := by decide +kernel
theorem dX7_cross_45 : decode cX7_cross 45 = .ok (.invokestatic 60, 3) := by decide +kernel
theorem dX7_cross_48 : decode cX7_cross 48 = .ok (.istore 5, 2) := by decide +kernel
theorem dX7_cross_50 : decode cX7_cross 50 = .ok (.aload_n 0, 1) := by decide +kernel
theorem dX7_cross_51 : decode cX7_cross 51 = .ok (.getfield 18, 3) := by decide +kernel
theorem dX7_cross_54 : decode cX7_cross 54 = .ok (.aload_n 0, 1) := by decide +kernel
theorem dX7_cross_55 : decode cX7_cross 55 = .ok (.getfield 24, 3) := by decide +kernel
theorem dX7_cross_58 : decode cX7_cross 58 = .ok (.iload_n 2, 1) := by decide +kernel
theorem dX7_cross_59 : decode cX7_cross 59 = .ok (.invokestatic 60, 3) := by decide +kernel
theorem dX7_cross_62 : decode cX7_cross 62 = .ok (.invokestatic 60, 3) := by decide +kernel
theorem dX7_cross_65 : decode cX7_cross 65 = .ok (.istore 6, 2) := by decide +kernel
theorem dX7_cross_67 : decode cX7_cross 67 = .ok (.iload_n 3, 1) := by decide +kernel
theorem dX7_cross_68 : decode cX7_cross 68 = .ok (.iload 5, 2) := by decide +kernel
theorem dX7_cross_70 : decode cX7_cross 70 = .ok (.if_icmp .eq 23, 3) := by decide +kernel
theorem dX7_cross_73 : decode cX7_cross 73 = .ok (.iload_n 3, 1) := by decide +kernel
theorem dX7_cross_74 : decode cX7_cross 74 = .ok (.iload 6, 2) := by decide +kernel
theorem dX7_cross_76 : decode cX7_cross 76 = .ok (.if_icmp .eq 17, 3) := by decide +kernel
theorem dX7_cross_79 : decode cX7_cross 79 = .ok (.iload 4, 2) := by decide +kernel
theorem dX7_cross_81 : decode cX7_cross 81 = .ok (.iload 5, 2) := by decide +kernel
theorem dX7_cross_83 : decode cX7_cross 83 = .ok (.if_icmp .eq 10, 3) := by decide +kernel
theorem dX7_cross_86 : decode cX7_cross 86 = .ok (.iload 4, 2) := by decide +kernel
theorem dX7_cross_88 : decode cX7_cross 88 = .ok (.iload 6, 2) := by decide +kernel
theorem dX7_cross_90 : decode cX7_cross 90 = .ok (.if_icmp .ne 5, 3) := by decide +kernel
theorem dX7_cross_93 : decode cX7_cross 93 = .ok (.iconst 0, 1) := by decide +kernel
theorem dX7_cross_94 : decode cX7_cross 94 = .ok (.ireturn, 1) := by decide +kernel
theorem dX7_cross_95 : decode cX7_cross 95 = .ok (.iload 5, 2) := by decide +kernel
theorem dX7_cross_97 : decode cX7_cross 97 = .ok (.iload_n 3, 1) := by decide +kernel
theorem dX7_cross_98 : decode cX7_cross 98 = .ok (.iload 4, 2) := by decide +kernel
theorem dX7_cross_100 : decode cX7_cross 100 = .ok (.invokestatic 109, 3) := by decide +kernel
theorem dX7_cross_103 : decode cX7_cross 103 = .ok (.iload 6, 2) := by decide +kernel
theorem dX7_cross_105 : decode cX7_cross 105 = .ok (.iload_n 3, 1) := by decide +kernel
theorem dX7_cross_106 : decode cX7_cross 106 = .ok (.iload 4, 2) := by decide +kernel
theorem dX7_cross_108 : decode cX7_cross 108 = .ok (.invokestatic 109, 3) := by decide +kernel
theorem dX7_cross_111 : decode cX7_cross 111 = .ok (.if_icmp .eq 7, 3) := by decide +kernel
theorem dX7_cross_114 : decode cX7_cross 114 = .ok (.iconst 1, 1) := by decide +kernel
theorem dX7_cross_115 : decode cX7_cross 115 = .ok (.goto 4, 3) := by decide +kernel
theorem dX7_cross_118 : decode cX7_cross 118 = .ok (.iconst 0, 1) := by decide +kernel
theorem dX7_cross_119 : decode cX7_cross 119 = .ok (.ireturn, 1) := by decide +kernel
theorem dX7_liesBetween_0 : decode cX7_liesBetween 0 = .ok (.iload_n 0, 1) := by decide +kernel
theorem dX7_liesBetween_1 : decode cX7_liesBetween 1 = .ok (.iload_n 1, 1) := by decide +kernel
theorem dX7_liesBetween_2 : decode cX7_liesBetween 2 = .ok (.iload_n 2, 1) := by decide +kernel
theorem dX7_liesBetween_3 : decode cX7_liesBetween 3 = .ok (.invokestatic 113, 3) := by decide +kernel
theorem dX7_liesBetween_6 : decode cX7_liesBetween 6 = .ok (.if_icmp .le 16, 3) := by decide +kernel
theorem dX7_liesBetween_9 : decode cX7_liesBetween 9 = .ok (.iload_n 0, 1) := by decide +kernel
theorem dX7_liesBetween_10 : decode cX7_liesBetween 10 = .ok (.iload_n 1, 1) := by decide +kernel
theorem dX7_liesBetween_11 : decode cX7_liesBetween 11 = .ok (.iload_n 2, 1) := by decide +kernel
theorem dX7_liesBetween_12 : decode cX7_liesBetween 12 = .ok (.invokestatic 118, 3) := by decide +kernel
theorem dX7_liesBetween_15 : decode cX7_liesBetween 15 = .ok (.if_icmp .ge 7, 3) := by decide +kernel
theorem dX7_liesBetween_18 : decode cX7_liesBetween 18 = .ok (.iconst 1, 1) := by decide +kernel
theorem dX7_liesBetween_19 : decode cX7_liesBetween 19 = .ok (.goto 4, 3) := by decide +kernel
theorem dX7_liesBetween_22 : decode cX7_liesBetween 22 = .ok (.iconst 0, 1) := by decide +kernel
theorem dX7_liesBetween_23 : decode cX7_liesBetween 23 = .ok (.ireturn, 1) := by decide +kernel
theorem dX7_countCrossingsBelow_0 : decode cX7_countCrossingsBelow 0 = .ok (.iload_n 1, 1) := by decide +kernel
theorem dX7_countCrossingsBelow_1 : decode cX7_countCrossingsBelow 1 = .ok (.ifCond .lt 16, 3) := by decide +kernel
theorem dX7_countCrossingsBelow_4 : decode cX7_countCrossingsBelow 4 = .ok (.iload_n 1, 1) := by decide +kernel
theorem dX7_countCrossingsBelow_5 : decode cX7_countCrossingsBelow 5 = .ok (.iconst 1, 1) := by decide +kernel
theorem dX7_countCrossingsBelow_6 : decode cX7_countCrossingsBelow 6 = .ok (.iadd, 1) := by decide +kernel
theorem dX7_countCrossingsBelow_7 : decode cX7_countCrossingsBelow 7 = .ok (.aload_n 0, 1) := by decide +kernel
theorem dX7_countCrossingsBelow_8 : decode cX7_countCrossingsBelow 8 = .ok (.getfield 30, 3) := by decide +kernel
theorem dX7_countCrossingsBelow_11 : decode cX7_countCrossingsBelow 11 = .ok (.getfield 37, 3) := by decide +kernel
theorem dX7_countCrossingsBelow_14 : decode cX7_countCrossingsBelow 14 = .ok (.if_icmp .lt 5, 3) := by decide +kernel
theorem dX7_countCrossingsBelow_17 : decode cX7_countCrossingsBelow 17 = .ok (.iconst 0, 1) := by decide +kernel
theorem dX7_countCrossingsBelow_18 : decode cX7_countCrossingsBelow 18 = .ok (.ireturn, 1) := by decide +kernel
theorem dX7_countCrossingsBelow_19 : decode cX7_countCrossingsBelow 19 = .ok (.iconst 0, 1) := by decide +kernel
theorem dX7_countCrossingsBelow_20 : decode cX7_countCrossingsBelow 20 = .ok (.istore_n 2, 1) := by decide +kernel
theorem dX7_countCrossingsBelow_21 : decode cX7_countCrossingsBelow 21 = .ok (.aload_n 0, 1) := by decide +kernel
theorem dX7_countCrossingsBelow_22 : decode cX7_countCrossingsBelow 22 = .ok (.iload_n 1, 1) := by decide +kernel
theorem dX7_countCrossingsBelow_23 : decode cX7_countCrossingsBelow 23 = .ok (.iconst 1, 1) := by decide +kernel
theorem dX7_countCrossingsBelow_24 : decode cX7_countCrossingsBelow 24 = .ok (.iadd, 1) := by decide +kernel
theorem dX7_countCrossingsBelow_25 : decode cX7_countCrossingsBelow 25 = .ok (.invokevirtual 79, 3) := by decide +kernel
theorem dX7_countCrossingsBelow_28 : decode cX7_countCrossingsBelow 28 = .ok (.istore_n 3, 1) := by decide +kernel
theorem dX7_countCrossingsBelow_29 : decode cX7_countCrossingsBelow 29 = .ok (.iconst 0, 1) := by decide +kernel
theorem dX7_countCrossingsBelow_30 : decode cX7_countCrossingsBelow 30 = .ok (.istore 4, 2) := by decide +kernel
theorem dX7_countCrossingsBelow_32 : decode cX7_countCrossingsBelow 32 = .ok (.iload 4, 2) := by decide +kernel
theorem dX7_countCrossingsBelow_34 : decode cX7_countCrossingsBelow 34 = .ok (.iload_n 3, 1) := by decide +kernel
theorem dX7_countCrossingsBelow_35 : decode cX7_countCrossingsBelow 35 = .ok (.if_icmp .ge 81, 3) := by decide +kernel
theorem dX7_countCrossingsBelow_38 : decode cX7_countCrossingsBelow 38 = .ok (.aload_n 0, 1) := by decide +kernel
theorem dX7_countCrossingsBelow_39 : decode cX7_countCrossingsBelow 39 = .ok (.iload_n 1, 1) := by decide +kernel
theorem dX7_countCrossingsBelow_40 : decode cX7_countCrossingsBelow 40 = .ok (.iconst 1, 1) := by decide +kernel
theorem dX7_countCrossingsBelow_41 : decode cX7_countCrossingsBelow 41 = .ok (.iadd, 1) := by decide +kernel
theorem dX7_countCrossingsBelow_42 : decode cX7_countCrossingsBelow 42 = .ok (.iload 4, 2) := by decide +kernel
theorem dX7_countCrossingsBelow_44 : decode cX7_countCrossingsBelow 44 = .ok (.invokevirtual 83, 3) := by decide +kernel
theorem dX7_countCrossingsBelow_47 : decode cX7_countCrossingsBelow 47 = .ok (.istore 5, 2) := by decide +kernel
theorem dX7_countCrossingsBelow_49 : decode cX7_countCrossingsBelow 49 = .ok (.iload 4, 2) := by decide +kernel
theorem dX7_countCrossingsBelow_51 : decode cX7_countCrossingsBelow 51 = .ok (.iconst 1, 1) := by decide +kernel
theorem dX7_countCrossingsBelow_52 : decode cX7_countCrossingsBelow 52 = .ok (.iadd, 1) := by decide +kernel
theorem dX7_countCrossingsBelow_53 : decode cX7_countCrossingsBelow 53 = .ok (.istore 6, 2) := by decide +kernel
theorem dX7_countCrossingsBelow_55 : decode cX7_countCrossingsBelow 55 = .ok (.iload 6, 2) := by decide +kernel
theorem dX7_countCrossingsBelow_57 : decode cX7_countCrossingsBelow 57 = .ok (.iload_n 3, 1) := by decide +kernel
theorem dX7_countCrossingsBelow_58 : decode cX7_countCrossingsBelow 58 = .ok (.if_icmp .ge 52, 3) := by decide +kernel
theorem dX7_countCrossingsBelow_61 : decode cX7_countCrossingsBelow 61 = .ok (.iload 5, 2) := by decide +kernel
theorem dX7_countCrossingsBelow_63 : decode cX7_countCrossingsBelow 63 = .ok (.bipush 16, 2) := by decide +kernel
theorem dX7_countCrossingsBelow_65 : decode cX7_countCrossingsBelow 65 = .ok (.if_icmp .ge 45, 3) := by decide +kernel
theorem dX7_countCrossingsBelow_68 : decode cX7_countCrossingsBelow 68 = .ok (.aload_n 0, 1) := by decide +kernel
theorem dX7_countCrossingsBelow_69 : decode cX7_countCrossingsBelow 69 = .ok (.iload_n 1, 1) := by decide +kernel
theorem dX7_countCrossingsBelow_70 : decode cX7_countCrossingsBelow 70 = .ok (.iconst 1, 1) := by decide +kernel
theorem dX7_countCrossingsBelow_71 : decode cX7_countCrossingsBelow 71 = .ok (.iadd, 1) := by decide +kernel
theorem dX7_countCrossingsBelow_72 : decode cX7_countCrossingsBelow 72 = .ok (.iload 6, 2) := by decide +kernel
theorem dX7_countCrossingsBelow_74 : decode cX7_countCrossingsBelow 74 = .ok (.invokevirtual 83, 3) := by decide +kernel
theorem dX7_countCrossingsBelow_77 : decode cX7_countCrossingsBelow 77 = .ok (.istore 7, 2) := by decide +kernel
theorem dX7_countCrossingsBelow_79 : decode cX7_countCrossingsBelow 79 = .ok (.iload 7, 2) := by decide +kernel
theorem dX7_countCrossingsBelow_81 : decode cX7_countCrossingsBelow 81 = .ok (.bipush 16, 2) := by decide +kernel
theorem dX7_countCrossingsBelow_83 : decode cX7_countCrossingsBelow 83 = .ok (.if_icmp .ge 21, 3) := by decide +kernel
theorem dX7_countCrossingsBelow_86 : decode cX7_countCrossingsBelow 86 = .ok (.aload_n 0, 1) := by decide +kernel
theorem dX7_countCrossingsBelow_87 : decode cX7_countCrossingsBelow 87 = .ok (.iload 5, 2) := by decide +kernel
theorem dX7_countCrossingsBelow_89 : decode cX7_countCrossingsBelow 89 = .ok (.invokevirtual 121, 3) := by decide +kernel
theorem dX7_countCrossingsBelow_92 : decode cX7_countCrossingsBelow 92 = .ok (.aload_n 0, 1) := by decide +kernel
theorem dX7_countCrossingsBelow_93 : decode cX7_countCrossingsBelow 93 = .ok (.iload 7, 2) := by decide +kernel
theorem dX7_countCrossingsBelow_95 : decode cX7_countCrossingsBelow 95 = .ok (.invokevirtual 121, 3) := by decide +kernel
theorem dX7_countCrossingsBelow_98 : decode cX7_countCrossingsBelow 98 = .ok (.if_icmp .le 6, 3) := by decide +kernel
theorem dX7_countCrossingsBelow_101 : decode cX7_countCrossingsBelow 101 = .ok (.iinc 2 1, 3) := by decide +kernel
theorem dX7_countCrossingsBelow_104 : decode cX7_countCrossingsBelow 104 = .ok (.iinc 6 1, 3) := by decide +kernel
theorem dX7_countCrossingsBelow_107 : decode cX7_countCrossingsBelow 107 = .ok (.goto (-52), 3) := by decide +kernel
theorem dX7_countCrossingsBelow_110 : decode cX7_countCrossingsBelow 110 = .ok (.iinc 4 1, 3) := by decide +kernel
theorem dX7_countCrossingsBelow_113 : decode cX7_countCrossingsBelow 113 = .ok (.goto (-81), 3) := by decide +kernel
theorem dX7_countCrossingsBelow_116 : decode cX7_countCrossingsBelow 116 = .ok (.iload_n 2, 1) := by decide +kernel
theorem dX7_countCrossingsBelow_117 : decode cX7_countCrossingsBelow 117 = .ok (.ireturn, 1) := by decide +kernel
theorem dX7_middleOfParents_0 : decode cX7_middleOfParents 0 = .ok (.aload_n 0, 1) := by decide +kernel
theorem dX7_middleOfParents_1 : decode cX7_middleOfParents 1 = .ok (.aload_n 0, 1) := by decide +kernel
theorem dX7_middleOfParents_2 : decode cX7_middleOfParents 2 = .ok (.getfield 30, 3) := by decide +kernel
theorem dX7_middleOfParents_5 : decode cX7_middleOfParents 5 = .ok (.getfield 124, 3) := by decide +kernel
theorem dX7_middleOfParents_8 : decode cX7_middleOfParents 8 = .ok (.iload_n 1, 1) := by decide +kernel
theorem dX7_middleOfParents_9 : decode cX7_middleOfParents 9 = .ok (.invokestatic 60, 3) := by decide +kernel
theorem dX7_middleOfParents_12 : decode cX7_middleOfParents 12 = .ok (.invokevirtual 127, 3) := by decide +kernel
theorem dX7_middleOfParents_15 : decode cX7_middleOfParents 15 = .ok (.ireturn, 1) := by decide +kernel
theorem dX7_swapWhereBetter_0 : decode cX7_swapWhereBetter 0 = .ok (.iconst 0, 1) := by decide +kernel
theorem dX7_swapWhereBetter_1 : decode cX7_swapWhereBetter 1 = .ok (.istore_n 1, 1) := by decide +kernel
theorem dX7_swapWhereBetter_2 : decode cX7_swapWhereBetter 2 = .ok (.iconst 0, 1) := by decide +kernel
theorem dX7_swapWhereBetter_3 : decode cX7_swapWhereBetter 3 = .ok (.istore_n 2, 1) := by decide +kernel
theorem dX7_swapWhereBetter_4 : decode cX7_swapWhereBetter 4 = .ok (.iload_n 2, 1) := by decide +kernel
theorem dX7_swapWhereBetter_5 : decode cX7_swapWhereBetter 5 = .ok (.aload_n 0, 1) := by decide +kernel
theorem dX7_swapWhereBetter_6 : decode cX7_swapWhereBetter 6 = .ok (.getfield 30, 3) := by decide +kernel
theorem dX7_swapWhereBetter_9 : decode cX7_swapWhereBetter 9 = .ok (.getfield 37, 3) := by decide +kernel
theorem dX7_swapWhereBetter_12 : decode cX7_swapWhereBetter 12 = .ok (.if_icmp .ge 80, 3) := by decide +kernel
theorem dX7_swapWhereBetter_15 : decode cX7_swapWhereBetter 15 = .ok (.aload_n 0, 1) := by decide +kernel
theorem dX7_swapWhereBetter_16 : decode cX7_swapWhereBetter 16 = .ok (.iload_n 2, 1) := by decide +kernel
theorem dX7_swapWhereBetter_17 : decode cX7_swapWhereBetter 17 = .ok (.invokevirtual 130, 3) := by decide +kernel
theorem dX7_swapWhereBetter_20 : decode cX7_swapWhereBetter 20 = .ok (.istore_n 3, 1) := by decide +kernel
theorem dX7_swapWhereBetter_21 : decode cX7_swapWhereBetter 21 = .ok (.iconst 0, 1) := by decide +kernel
theorem dX7_swapWhereBetter_22 : decode cX7_swapWhereBetter 22 = .ok (.istore 4, 2) := by decide +kernel
theorem dX7_swapWhereBetter_24 : decode cX7_swapWhereBetter 24 = .ok (.iload 4, 2) := by decide +kernel
theorem dX7_swapWhereBetter_26 : decode cX7_swapWhereBetter 26 = .ok (.iconst 1, 1) := by decide +kernel
theorem dX7_swapWhereBetter_27 : decode cX7_swapWhereBetter 27 = .ok (.iadd, 1) := by decide +kernel
theorem dX7_swapWhereBetter_28 : decode cX7_swapWhereBetter 28 = .ok (.aload_n 0, 1) := by decide +kernel
theorem dX7_swapWhereBetter_29 : decode cX7_swapWhereBetter 29 = .ok (.iload_n 2, 1) := by decide +kernel
theorem dX7_swapWhereBetter_30 : decode cX7_swapWhereBetter 30 = .ok (.invokevirtual 79, 3) := by decide +kernel
theorem dX7_swapWhereBetter_33 : decode cX7_swapWhereBetter 33 = .ok (.if_icmp .ge 53, 3) := by decide +kernel
theorem dX7_swapWhereBetter_36 : decode cX7_swapWhereBetter 36 = .ok (.aload_n 0, 1) := by decide +kernel
theorem dX7_swapWhereBetter_37 : decode cX7_swapWhereBetter 37 = .ok (.iload_n 2, 1) := by decide +kernel
theorem dX7_swapWhereBetter_38 : decode cX7_swapWhereBetter 38 = .ok (.iload 4, 2) := by decide +kernel
theorem dX7_swapWhereBetter_40 : decode cX7_swapWhereBetter 40 = .ok (.iload 4, 2) := by decide +kernel
theorem dX7_swapWhereBetter_42 : decode cX7_swapWhereBetter 42 = .ok (.iconst 1, 1) := by decide +kernel
theorem dX7_swapWhereBetter_43 : decode cX7_swapWhereBetter 43 = .ok (.iadd, 1) := by decide +kernel
theorem dX7_swapWhereBetter_44 : decode cX7_swapWhereBetter 44 = .ok (.invokevirtual 133, 3) := by decide +kernel
theorem dX7_swapWhereBetter_47 : decode cX7_swapWhereBetter 47 = .ok (.aload_n 0, 1) := by decide +kernel
theorem dX7_swapWhereBetter_48 : decode cX7_swapWhereBetter 48 = .ok (.iload_n 2, 1) := by decide +kernel
theorem dX7_swapWhereBetter_49 : decode cX7_swapWhereBetter 49 = .ok (.invokevirtual 130, 3) := by decide +kernel
theorem dX7_swapWhereBetter_52 : decode cX7_swapWhereBetter 52 = .ok (.istore 5, 2) := by decide +kernel
theorem dX7_swapWhereBetter_54 : decode cX7_swapWhereBetter 54 = .ok (.iload 5, 2) := by decide +kernel
theorem dX7_swapWhereBetter_56 : decode cX7_swapWhereBetter 56 = .ok (.iload_n 3, 1) := by decide +kernel
theorem dX7_swapWhereBetter_57 : decode cX7_swapWhereBetter 57 = .ok (.if_icmp .ge 12, 3) := by decide +kernel
theorem dX7_swapWhereBetter_60 : decode cX7_swapWhereBetter 60 = .ok (.iload 5, 2) := by decide +kernel
theorem dX7_swapWhereBetter_62 : decode cX7_swapWhereBetter 62 = .ok (.istore_n 3, 1) := by decide +kernel
theorem dX7_swapWhereBetter_63 : decode cX7_swapWhereBetter 63 = .ok (.iinc 1 1, 3) := by decide +kernel
theorem dX7_swapWhereBetter_66 : decode cX7_swapWhereBetter 66 = .ok (.goto 14, 3) := by decide +kernel
theorem dX7_swapWhereBetter_69 : decode cX7_swapWhereBetter 69 = .ok (.aload_n 0, 1) := by decide +kernel
theorem dX7_swapWhereBetter_70 : decode cX7_swapWhereBetter 70 = .ok (.iload_n 2, 1) := by decide +kernel
theorem dX7_swapWhereBetter_71 : decode cX7_swapWhereBetter 71 = .ok (.iload 4, 2) := by decide +kernel
theorem dX7_swapWhereBetter_73 : decode cX7_swapWhereBetter 73 = .ok (.iload 4, 2) := by decide +kernel
theorem dX7_swapWhereBetter_75 : decode cX7_swapWhereBetter 75 = .ok (.iconst 1, 1) := by decide +kernel
theorem dX7_swapWhereBetter_76 : decode cX7_swapWhereBetter 76 = .ok (.iadd, 1) := by decide +kernel
theorem dX7_swapWhereBetter_77 : decode cX7_swapWhereBetter 77 = .ok (.invokevirtual 133, 3) := by decide +kernel
theorem dX7_swapWhereBetter_80 : decode cX7_swapWhereBetter 80 = .ok (.iinc 4 1, 3) := by decide +kernel
theorem dX7_swapWhereBetter_83 : decode cX7_swapWhereBetter 83 = .ok (.goto (-59), 3) := by decide +kernel
theorem dX7_swapWhereBetter_86 : decode cX7_swapWhereBetter 86 = .ok (.iinc 2 1, 3) := by decide +kernel
theorem dX7_swapWhereBetter_89 : decode cX7_swapWhereBetter 89 = .ok (.goto (-85), 3) := by decide +kernel
theorem dX7_swapWhereBetter_92 : decode cX7_swapWhereBetter 92 = .ok (.iload_n 1, 1) := by decide +kernel
theorem dX7_swapWhereBetter_93 : decode cX7_swapWhereBetter 93 = .ok (.ireturn, 1) := by decide +kernel
theorem dX7_countCrossingsAround_0 : decode cX7_countCrossingsAround 0 = .ok (.aload_n 0, 1) := by decide +kernel
theorem dX7_countCrossingsAround_1 : decode cX7_countCrossingsAround 1 = .ok (.iload_n 1, 1) := by decide +kernel
theorem dX7_countCrossingsAround_2 : decode cX7_countCrossingsAround 2 = .ok (.iconst 1, 1) := by decide +kernel
theorem dX7_countCrossingsAround_3 : decode cX7_countCrossingsAround 3 = .ok (.isub, 1) := by decide +kernel
theorem dX7_countCrossingsAround_4 : decode cX7_countCrossingsAround 4 = .ok (.invokevirtual 99, 3) := by decide +kernel
theorem dX7_countCrossingsAround_7 : decode cX7_countCrossingsAround 7 = .ok (.aload_n 0, 1) := by decide +kernel
theorem dX7_countCrossingsAround_8 : decode cX7_countCrossingsAround 8 = .ok (.iload_n 1, 1) := by decide +kernel
theorem dX7_countCrossingsAround_9 : decode cX7_countCrossingsAround 9 = .ok (.invokevirtual 96, 3) := by decide +kernel
theorem dX7_countCrossingsAround_12 : decode cX7_countCrossingsAround 12 = .ok (.iadd, 1) := by decide +kernel
theorem dX7_countCrossingsAround_13 : decode cX7_countCrossingsAround 13 = .ok (.aload_n 0, 1) := by decide +kernel
theorem dX7_countCrossingsAround_14 : decode cX7_countCrossingsAround 14 = .ok (.iload_n 1, 1) := by decide +kernel
theorem dX7_countCrossingsAround_15 : decode cX7_countCrossingsAround 15 = .ok (.invokevirtual 99, 3) := by decide +kernel
theorem dX7_countCrossingsAround_18 : decode cX7_countCrossingsAround 18 = .ok (.iadd, 1) := by decide +kernel
theorem dX7_countCrossingsAround_19 : decode cX7_countCrossingsAround 19 = .ok (.ireturn, 1) := by decide +kernel
theorem dX7_sortByKeys_0 : decode cX7_sortByKeys 0 = .ok (.iconst 1, 1) := by decide +kernel
theorem dX7_sortByKeys_1 : decode cX7_sortByKeys 1 = .ok (.istore_n 1, 1) := by decide +kernel
theorem dX7_sortByKeys_2 : decode cX7_sortByKeys 2 = .ok (.iload_n 1, 1) := by decide +kernel
theorem dX7_sortByKeys_3 : decode cX7_sortByKeys 3 = .ok (.aload_n 0, 1) := by decide +kernel
theorem dX7_sortByKeys_4 : decode cX7_sortByKeys 4 = .ok (.getfield 30, 3) := by decide +kernel
theorem dX7_sortByKeys_7 : decode cX7_sortByKeys 7 = .ok (.getfield 37, 3) := by decide +kernel
theorem dX7_sortByKeys_10 : decode cX7_sortByKeys 10 = .ok (.if_icmp .ge 52, 3) := by decide +kernel
theorem dX7_sortByKeys_13 : decode cX7_sortByKeys 13 = .ok (.iconst 0, 1) := by decide +kernel
theorem dX7_sortByKeys_14 : decode cX7_sortByKeys 14 = .ok (.istore_n 2, 1) := by decide +kernel
theorem dX7_sortByKeys_15 : decode cX7_sortByKeys 15 = .ok (.iload_n 2, 1) := by decide +kernel
theorem dX7_sortByKeys_16 : decode cX7_sortByKeys 16 = .ok (.aload_n 0, 1) := by decide +kernel
theorem dX7_sortByKeys_17 : decode cX7_sortByKeys 17 = .ok (.iload_n 1, 1) := by decide +kernel
theorem dX7_sortByKeys_18 : decode cX7_sortByKeys 18 = .ok (.invokevirtual 79, 3) := by decide +kernel
theorem dX7_sortByKeys_21 : decode cX7_sortByKeys 21 = .ok (.if_icmp .ge 30, 3) := by decide +kernel
theorem dX7_sortByKeys_24 : decode cX7_sortByKeys 24 = .ok (.aload_n 0, 1) := by decide +kernel
theorem dX7_sortByKeys_25 : decode cX7_sortByKeys 25 = .ok (.iload_n 1, 1) := by decide +kernel
theorem dX7_sortByKeys_26 : decode cX7_sortByKeys 26 = .ok (.iload_n 2, 1) := by decide +kernel
theorem dX7_sortByKeys_27 : decode cX7_sortByKeys 27 = .ok (.invokevirtual 83, 3) := by decide +kernel
theorem dX7_sortByKeys_30 : decode cX7_sortByKeys 30 = .ok (.istore_n 3, 1) := by decide +kernel
theorem dX7_sortByKeys_31 : decode cX7_sortByKeys 31 = .ok (.aload_n 0, 1) := by decide +kernel
theorem dX7_sortByKeys_32 : decode cX7_sortByKeys 32 = .ok (.getfield 27, 3) := by decide +kernel
theorem dX7_sortByKeys_35 : decode cX7_sortByKeys 35 = .ok (.iload_n 3, 1) := by decide +kernel
theorem dX7_sortByKeys_36 : decode cX7_sortByKeys 36 = .ok (.aload_n 0, 1) := by decide +kernel
theorem dX7_sortByKeys_37 : decode cX7_sortByKeys 37 = .ok (.iload_n 3, 1) := by decide +kernel
theorem dX7_sortByKeys_38 : decode cX7_sortByKeys 38 = .ok (.iload_n 1, 1) := by decide +kernel
theorem dX7_sortByKeys_39 : decode cX7_sortByKeys 39 = .ok (.invokevirtual 137, 3) := by decide +kernel
theorem dX7_sortByKeys_42 : decode cX7_sortByKeys 42 = .ok (.invokestatic 43, 3) := by decide +kernel
theorem dX7_sortByKeys_45 : decode cX7_sortByKeys 45 = .ok (.iinc 2 1, 3) := by decide +kernel
theorem dX7_sortByKeys_48 : decode cX7_sortByKeys 48 = .ok (.goto (-33), 3) := by decide +kernel
theorem dX7_sortByKeys_51 : decode cX7_sortByKeys 51 = .ok (.aload_n 0, 1) := by decide +kernel
theorem dX7_sortByKeys_52 : decode cX7_sortByKeys 52 = .ok (.iload_n 1, 1) := by decide +kernel
theorem dX7_sortByKeys_53 : decode cX7_sortByKeys 53 = .ok (.invokevirtual 140, 3) := by decide +kernel
theorem dX7_sortByKeys_56 : decode cX7_sortByKeys 56 = .ok (.iinc 1 1, 3) := by decide +kernel
theorem dX7_sortByKeys_59 : decode cX7_sortByKeys 59 = .ok (.goto (-57), 3) := by decide +kernel
theorem dX7_sortByKeys_62 : decode cX7_sortByKeys 62 = .ok (.return_, 1) := by decide +kernel
theorem dX7_keyOf_0 : decode cX7_keyOf 0 = .ok (.iload_n 1, 1) := by decide +kernel
theorem dX7_keyOf_1 : decode cX7_keyOf 1 = .ok (.invokestatic 93, 3) := by decide +kernel
theorem dX7_keyOf_4 : decode cX7_keyOf 4 = .ok (.istore_n 3, 1) := by decide +kernel
theorem dX7_keyOf_5 : decode cX7_keyOf 5 = .ok (.iload_n 3, 1) := by decide +kernel
theorem dX7_keyOf_6 : decode cX7_keyOf 6 = .ok (.iconst (-1), 1) := by decide +kernel
theorem dX7_keyOf_7 : decode cX7_keyOf 7 = .ok (.if_icmp .ne 7, 3) := by decide +kernel
theorem dX7_keyOf_10 : decode cX7_keyOf 10 = .ok (.iload_n 1, 1) := by decide +kernel
theorem dX7_keyOf_11 : decode cX7_keyOf 11 = .ok (.goto 16, 3) := by decide +kernel
theorem dX7_keyOf_14 : decode cX7_keyOf 14 = .ok (.aload_n 0, 1) := by decide +kernel
theorem dX7_keyOf_15 : decode cX7_keyOf 15 = .ok (.getfield 30, 3) := by decide +kernel
theorem dX7_keyOf_18 : decode cX7_keyOf 18 = .ok (.iload_n 3, 1) := by decide +kernel
theorem dX7_keyOf_19 : decode cX7_keyOf 19 = .ok (.aload_n 0, 1) := by decide +kernel
theorem dX7_keyOf_20 : decode cX7_keyOf 20 = .ok (.iload_n 1, 1) := by decide +kernel
theorem dX7_keyOf_21 : decode cX7_keyOf 21 = .ok (.invokevirtual 144, 3) := by decide +kernel
theorem dX7_keyOf_24 : decode cX7_keyOf 24 = .ok (.invokevirtual 147, 3) := by decide +kernel
theorem dX7_keyOf_27 : decode cX7_keyOf 27 = .ok (.istore 4, 2) := by decide +kernel
theorem dX7_keyOf_29 : decode cX7_keyOf 29 = .ok (.aload_n 0, 1) := by decide +kernel
theorem dX7_keyOf_30 : decode cX7_keyOf 30 = .ok (.getfield 30, 3) := by decide +kernel
theorem dX7_keyOf_33 : decode cX7_keyOf 33 = .ok (.getfield 73, 3) := by decide +kernel
theorem dX7_keyOf_36 : decode cX7_keyOf 36 = .ok (.iload 4, 2) := by decide +kernel
theorem dX7_keyOf_38 : decode cX7_keyOf 38 = .ok (.invokestatic 60, 3) := by decide +kernel
theorem dX7_keyOf_41 : decode cX7_keyOf 41 = .ok (.iload_n 2, 1) := by decide +kernel
theorem dX7_keyOf_42 : decode cX7_keyOf 42 = .ok (.if_icmp .ne 19, 3) := by decide +kernel
theorem dX7_keyOf_45 : decode cX7_keyOf 45 = .ok (.aload_n 0, 1) := by decide +kernel
theorem dX7_keyOf_46 : decode cX7_keyOf 46 = .ok (.getfield 30, 3) := by decide +kernel
theorem dX7_keyOf_49 : decode cX7_keyOf 49 = .ok (.iload 4, 2) := by decide +kernel
theorem dX7_keyOf_51 : decode cX7_keyOf 51 = .ok (.invokevirtual 150, 3) := by decide +kernel
theorem dX7_keyOf_54 : decode cX7_keyOf 54 = .ok (.ifCond .eq 7, 3) := by decide +kernel
theorem dX7_keyOf_57 : decode cX7_keyOf 57 = .ok (.iconst 1, 1) := by decide +kernel
theorem dX7_keyOf_58 : decode cX7_keyOf 58 = .ok (.goto 4, 3) := by decide +kernel
theorem dX7_keyOf_61 : decode cX7_keyOf 61 = .ok (.iconst 0, 1) := by decide +kernel
theorem dX7_keyOf_62 : decode cX7_keyOf 62 = .ok (.istore 5, 2) := by decide +kernel
theorem dX7_keyOf_64 : decode cX7_keyOf 64 = .ok (.iload 5, 2) := by decide +kernel
theorem dX7_keyOf_66 : decode cX7_keyOf 66 = .ok (.ifCond .eq 12, 3) := by decide +kernel
theorem dX7_keyOf_69 : decode cX7_keyOf 69 = .ok (.aload_n 0, 1) := by decide +kernel
theorem dX7_keyOf_70 : decode cX7_keyOf 70 = .ok (.iload 4, 2) := by decide +kernel
theorem dX7_keyOf_72 : decode cX7_keyOf 72 = .ok (.invokevirtual 121, 3) := by decide +kernel
theorem dX7_keyOf_75 : decode cX7_keyOf 75 = .ok (.goto 6, 3) := by decide +kernel
theorem dX7_keyOf_78 : decode cX7_keyOf 78 = .ok (.sipush 1000, 3) := by decide +kernel
theorem dX7_keyOf_81 : decode cX7_keyOf 81 = .ok (.ireturn, 1) := by decide +kernel
theorem dX7_sortRow_0 : decode cX7_sortRow 0 = .ok (.iconst 1, 1) := by decide +kernel
theorem dX7_sortRow_1 : decode cX7_sortRow 1 = .ok (.istore_n 2, 1) := by decide +kernel
theorem dX7_sortRow_2 : decode cX7_sortRow 2 = .ok (.iload_n 2, 1) := by decide +kernel
theorem dX7_sortRow_3 : decode cX7_sortRow 3 = .ok (.aload_n 0, 1) := by decide +kernel
theorem dX7_sortRow_4 : decode cX7_sortRow 4 = .ok (.iload_n 1, 1) := by decide +kernel
theorem dX7_sortRow_5 : decode cX7_sortRow 5 = .ok (.invokevirtual 79, 3) := by decide +kernel
theorem dX7_sortRow_8 : decode cX7_sortRow 8 = .ok (.if_icmp .ge 47, 3) := by decide +kernel
theorem dX7_sortRow_11 : decode cX7_sortRow 11 = .ok (.iload_n 2, 1) := by decide +kernel
theorem dX7_sortRow_12 : decode cX7_sortRow 12 = .ok (.istore_n 3, 1) := by decide +kernel
theorem dX7_sortRow_13 : decode cX7_sortRow 13 = .ok (.iload_n 3, 1) := by decide +kernel
theorem dX7_sortRow_14 : decode cX7_sortRow 14 = .ok (.ifCond .le 35, 3) := by decide +kernel
theorem dX7_sortRow_17 : decode cX7_sortRow 17 = .ok (.aload_n 0, 1) := by decide +kernel
theorem dX7_sortRow_18 : decode cX7_sortRow 18 = .ok (.iload_n 1, 1) := by decide +kernel
theorem dX7_sortRow_19 : decode cX7_sortRow 19 = .ok (.iload_n 3, 1) := by decide +kernel
theorem dX7_sortRow_20 : decode cX7_sortRow 20 = .ok (.iconst 1, 1) := by decide +kernel
theorem dX7_sortRow_21 : decode cX7_sortRow 21 = .ok (.isub, 1) := by decide +kernel
theorem dX7_sortRow_22 : decode cX7_sortRow 22 = .ok (.invokevirtual 154, 3) := by decide +kernel
theorem dX7_sortRow_25 : decode cX7_sortRow 25 = .ok (.aload_n 0, 1) := by decide +kernel
theorem dX7_sortRow_26 : decode cX7_sortRow 26 = .ok (.iload_n 1, 1) := by decide +kernel
theorem dX7_sortRow_27 : decode cX7_sortRow 27 = .ok (.iload_n 3, 1) := by decide +kernel
theorem dX7_sortRow_28 : decode cX7_sortRow 28 = .ok (.invokevirtual 154, 3) := by decide +kernel
theorem dX7_sortRow_31 : decode cX7_sortRow 31 = .ok (.if_icmp .le 18, 3) := by decide +kernel
theorem dX7_sortRow_34 : decode cX7_sortRow 34 = .ok (.aload_n 0, 1) := by decide +kernel
theorem dX7_sortRow_35 : decode cX7_sortRow 35 = .ok (.iload_n 1, 1) := by decide +kernel
theorem dX7_sortRow_36 : decode cX7_sortRow 36 = .ok (.iload_n 3, 1) := by decide +kernel
theorem dX7_sortRow_37 : decode cX7_sortRow 37 = .ok (.iconst 1, 1) := by decide +kernel
theorem dX7_sortRow_38 : decode cX7_sortRow 38 = .ok (.isub, 1) := by decide +kernel
theorem dX7_sortRow_39 : decode cX7_sortRow 39 = .ok (.iload_n 3, 1) := by decide +kernel
theorem dX7_sortRow_40 : decode cX7_sortRow 40 = .ok (.invokevirtual 133, 3) := by decide +kernel
theorem dX7_sortRow_43 : decode cX7_sortRow 43 = .ok (.iinc 3 (-1), 3) := by decide +kernel
theorem dX7_sortRow_46 : decode cX7_sortRow 46 = .ok (.goto (-33), 3) := by decide +kernel
theorem dX7_sortRow_49 : decode cX7_sortRow 49 = .ok (.iinc 2 1, 3) := by decide +kernel
theorem dX7_sortRow_52 : decode cX7_sortRow 52 = .ok (.goto (-50), 3) := by decide +kernel
theorem dX7_sortRow_55 : decode cX7_sortRow 55 = .ok (.return_, 1) := by decide +kernel
theorem dX7_keyAt_0 : decode cX7_keyAt 0 = .ok (.aload_n 0, 1) := by decide +kernel
theorem dX7_keyAt_1 : decode cX7_keyAt 1 = .ok (.getfield 27, 3) := by decide +kernel
theorem dX7_keyAt_4 : decode cX7_keyAt 4 = .ok (.aload_n 0, 1) := by decide +kernel
theorem dX7_keyAt_5 : decode cX7_keyAt 5 = .ok (.iload_n 1, 1) := by decide +kernel
theorem dX7_keyAt_6 : decode cX7_keyAt 6 = .ok (.iload_n 2, 1) := by decide +kernel
theorem dX7_keyAt_7 : decode cX7_keyAt 7 = .ok (.invokevirtual 83, 3) := by decide +kernel
theorem dX7_keyAt_10 : decode cX7_keyAt 10 = .ok (.invokestatic 60, 3) := by decide +kernel
theorem dX7_keyAt_13 : decode cX7_keyAt 13 = .ok (.ireturn, 1) := by decide +kernel
theorem dX8_init_0 : decode cX8_init 0 = .ok (.aload_n 0, 1) := by decide +kernel
theorem dX8_init_1 : decode cX8_init 1 = .ok (.invokespecial 3, 3) := by decide +kernel
theorem dX8_init_4 : decode cX8_init 4 = .ok (.aload_n 0, 1) := by decide +kernel
theorem dX8_init_5 : decode cX8_init 5 = .ok (.new 9, 3) := by decide +kernel
theorem dX8_init_8 : decode cX8_init 8 = .ok (.dup, 1) := by decide +kernel
theorem dX8_init_9 : decode cX8_init 9 = .ok (.invokespecial 11, 3) := by decide +kernel
theorem dX8_init_12 : decode cX8_init 12 = .ok (.putfield 12, 3) := by decide +kernel
theorem dX8_init_15 : decode cX8_init 15 = .ok (.aload_n 0, 1) := by decide +kernel
theorem dX8_init_16 : decode cX8_init 16 = .ok (.aload_n 1, 1) := by decide +kernel
theorem dX8_init_17 : decode cX8_init 17 = .ok (.putfield 18, 3) := by decide +kernel
theorem dX8_init_20 : decode cX8_init 20 = .ok (.return_, 1) := by decide +kernel
theorem dX8_read_0 : decode cX8_read 0 = .ok (.aload_n 0, 1) := by decide +kernel
theorem dX8_read_1 : decode cX8_read 1 = .ok (.getfield 12, 3) := by decide +kernel
theorem dX8_read_4 : decode cX8_read 4 = .ok (.invokevirtual 22, 3) := by decide +kernel
theorem dX8_read_7 : decode cX8_read 7 = .ok (.aload_n 0, 1) := by decide +kernel
theorem dX8_read_8 : decode cX8_read 8 = .ok (.getfield 18, 3) := by decide +kernel
theorem dX8_read_11 : decode cX8_read 11 = .ok (.iload_n 1, 1) := by decide +kernel
theorem dX8_read_12 : decode cX8_read 12 = .ok (.invokevirtual 25, 3) := by decide +kernel
theorem dX8_read_15 : decode cX8_read 15 = .ok (.iconst 0, 1) := by decide +kernel
theorem dX8_read_16 : decode cX8_read 16 = .ok (.istore_n 2, 1) := by decide +kernel
theorem dX8_read_17 : decode cX8_read 17 = .ok (.iload_n 2, 1) := by decide +kernel
theorem dX8_read_18 : decode cX8_read 18 = .ok (.sipush 800, 3) := by decide +kernel
theorem dX8_read_21 : decode cX8_read 21 = .ok (.if_icmp .ge 82, 3) := by decide +kernel
theorem dX8_read_24 : decode cX8_read 24 = .ok (.aload_n 0, 1) := by decide +kernel
theorem dX8_read_25 : decode cX8_read 25 = .ok (.getfield 18, 3) := by decide +kernel
theorem dX8_read_28 : decode cX8_read 28 = .ok (.invokevirtual 31, 3) := by decide +kernel
theorem dX8_read_31 : decode cX8_read 31 = .ok (.ifCond .eq 72, 3) := by decide +kernel
theorem dX8_read_34 : decode cX8_read 34 = .ok (.aload_n 0, 1) := by decide +kernel
theorem dX8_read_35 : decode cX8_read 35 = .ok (.getfield 18, 3) := by decide +kernel
theorem dX8_read_38 : decode cX8_read 38 = .ok (.getfield 35, 3) := by decide +kernel
theorem dX8_read_41 : decode cX8_read 41 = .ok (.ifCond .eq 62, 3) := by decide +kernel
theorem dX8_read_44 : decode cX8_read 44 = .ok (.aload_n 0, 1) := by decide +kernel
theorem dX8_read_45 : decode cX8_read 45 = .ok (.getfield 18, 3) := by decide +kernel
theorem dX8_read_48 : decode cX8_read 48 = .ok (.ldc 39, 2) := by decide +kernel
theorem dX8_read_50 : decode cX8_read 50 = .ok (.invokevirtual 41, 3) := by decide +kernel
theorem dX8_read_53 : decode cX8_read 53 = .ok (.ifCond .eq 10, 3) := by decide +kernel
theorem dX8_read_56 : decode cX8_read 56 = .ok (.aload_n 0, 1) := by decide +kernel
theorem dX8_read_57 : decode cX8_read 57 = .ok (.invokevirtual 45, 3) := by decide +kernel
theorem dX8_read_60 : decode cX8_read 60 = .ok (.goto 30, 3) := by decide +kernel
theorem dX8_read_63 : decode cX8_read 63 = .ok (.aload_n 0, 1) := by decide +kernel
theorem dX8_read_64 : decode cX8_read 64 = .ok (.getfield 18, 3) := by decide +kernel
theorem dX8_read_67 : decode cX8_read 67 = .ok (.ldc 48, 2) := by decide +kernel
theorem dX8_read_69 : decode cX8_read 69 = .ok (.invokevirtual 41, 3) := by decide +kernel
theorem dX8_read_72 : decode cX8_read 72 = .ok (.ifCond .eq 10, 3) := by decide +kernel
theorem dX8_read_75 : decode cX8_read 75 = .ok (.aload_n 0, 1) := by decide +kernel
theorem dX8_read_76 : decode cX8_read 76 = .ok (.invokevirtual 50, 3) := by decide +kernel
theorem dX8_read_79 : decode cX8_read 79 = .ok (.goto 11, 3) := by decide +kernel
theorem dX8_read_82 : decode cX8_read 82 = .ok (.aload_n 0, 1) := by decide +kernel
theorem dX8_read_83 : decode cX8_read 83 = .ok (.getfield 18, 3) := by decide +kernel
theorem dX8_read_86 : decode cX8_read 86 = .ok (.iconst 1, 1) := by decide +kernel
theorem dX8_read_87 : decode cX8_read 87 = .ok (.invokevirtual 53, 3) := by decide +kernel
theorem dX8_read_90 : decode cX8_read 90 = .ok (.aload_n 0, 1) := by decide +kernel
theorem dX8_read_91 : decode cX8_read 91 = .ok (.getfield 12, 3) := by decide +kernel
theorem dX8_read_94 : decode cX8_read 94 = .ok (.invokevirtual 56, 3) := by decide +kernel
theorem dX8_read_97 : decode cX8_read 97 = .ok (.iinc 2 1, 3) := by decide +kernel
theorem dX8_read_100 : decode cX8_read 100 = .ok (.goto (-83), 3) := by decide +kernel
theorem dX8_read_103 : decode cX8_read 103 = .ok (.aload_n 0, 1) := by decide +kernel
theorem dX8_read_104 : decode cX8_read 104 = .ok (.getfield 18, 3) := by decide +kernel
theorem dX8_read_107 : decode cX8_read 107 = .ok (.getfield 59, 3) := by decide +kernel
theorem dX8_read_110 : decode cX8_read 110 = .ok (.ireturn, 1) := by decide +kernel
theorem dX8_readPerson_0 : decode cX8_readPerson 0 = .ok (.aload_n 0, 1) := by decide +kernel
theorem dX8_readPerson_1 : decode cX8_readPerson 1 = .ok (.getfield 12, 3) := by decide +kernel
theorem dX8_readPerson_4 : decode cX8_readPerson 4 = .ok (.getfield 62, 3) := by decide +kernel
theorem dX8_readPerson_7 : decode cX8_readPerson 7 = .ok (.bipush 16, 2) := by decide +kernel
theorem dX8_readPerson_9 : decode cX8_readPerson 9 = .ok (.if_icmp .lt 12, 3) := by decide +kernel
theorem dX8_readPerson_12 : decode cX8_readPerson 12 = .ok (.aload_n 0, 1) := by decide +kernel
theorem dX8_readPerson_13 : decode cX8_readPerson 13 = .ok (.getfield 18, 3) := by decide +kernel
theorem dX8_readPerson_16 : decode cX8_readPerson 16 = .ok (.iconst 3, 1) := by decide +kernel
theorem dX8_readPerson_17 : decode cX8_readPerson 17 = .ok (.invokevirtual 53, 3) := by decide +kernel
theorem dX8_readPerson_20 : decode cX8_readPerson 20 = .ok (.return_, 1) := by decide +kernel
theorem dX8_readPerson_21 : decode cX8_readPerson 21 = .ok (.aload_n 0, 1) := by decide +kernel
theorem dX8_readPerson_22 : decode cX8_readPerson 22 = .ok (.getfield 18, 3) := by decide +kernel
theorem dX8_readPerson_25 : decode cX8_readPerson 25 = .ok (.invokevirtual 65, 3) := by decide +kernel
theorem dX8_readPerson_28 : decode cX8_readPerson 28 = .ok (.aload_n 0, 1) := by decide +kernel
theorem dX8_readPerson_29 : decode cX8_readPerson 29 = .ok (.invokevirtual 68, 3) := by decide +kernel
theorem dX8_readPerson_32 : decode cX8_readPerson 32 = .ok (.aload_n 0, 1) := by decide +kernel
theorem dX8_readPerson_33 : decode cX8_readPerson 33 = .ok (.getfield 18, 3) := by decide +kernel
theorem dX8_readPerson_36 : decode cX8_readPerson 36 = .ok (.invokevirtual 31, 3) := by decide +kernel
theorem dX8_readPerson_39 : decode cX8_readPerson 39 = .ok (.ifCond .ne 4, 3) := by decide +kernel
theorem dX8_readPerson_42 : decode cX8_readPerson 42 = .ok (.return_, 1) := by decide +kernel
theorem dX8_readPerson_43 : decode cX8_readPerson 43 = .ok (.aload_n 0, 1) := by decide +kernel
theorem dX8_readPerson_44 : decode cX8_readPerson 44 = .ok (.getfield 12, 3) := by decide +kernel
theorem dX8_readPerson_47 : decode cX8_readPerson 47 = .ok (.invokevirtual 71, 3) := by decide +kernel
theorem dX8_readPerson_50 : decode cX8_readPerson 50 = .ok (.istore_n 1, 1) := by decide +kernel
theorem dX8_readPerson_51 : decode cX8_readPerson 51 = .ok (.iconst 0, 1) := by decide +kernel
theorem dX8_readPerson_52 : decode cX8_readPerson 52 = .ok (.istore_n 2, 1) := by decide +kernel
theorem dX8_readPerson_53 : decode cX8_readPerson 53 = .ok (.iload_n 2, 1) := by decide +kernel
theorem dX8_readPerson_54 : decode cX8_readPerson 54 = .ok (.aload_n 0, 1) := by decide +kernel
theorem dX8_readPerson_55 : decode cX8_readPerson 55 = .ok (.getfield 18, 3) := by decide +kernel
theorem dX8_readPerson_58 : decode cX8_readPerson 58 = .ok (.invokevirtual 75, 3) := by decide +kernel
theorem dX8_readPerson_61 : decode cX8_readPerson 61 = .ok (.if_icmp .ge 25, 3) := by decide +kernel
theorem dX8_readPerson_64 : decode cX8_readPerson 64 = .ok (.aload_n 0, 1) := by decide +kernel
theorem dX8_readPerson_65 : decode cX8_readPerson 65 = .ok (.getfield 12, 3) := by decide +kernel
theorem dX8_readPerson_68 : decode cX8_readPerson 68 = .ok (.iload_n 1, 1) := by decide +kernel
theorem dX8_readPerson_69 : decode cX8_readPerson 69 = .ok (.aload_n 0, 1) := by decide +kernel
theorem dX8_readPerson_70 : decode cX8_readPerson 70 = .ok (.getfield 18, 3) := by decide +kernel
theorem dX8_readPerson_73 : decode cX8_readPerson 73 = .ok (.iload_n 2, 1) := by decide +kernel
theorem dX8_readPerson_74 : decode cX8_readPerson 74 = .ok (.invokevirtual 78, 3) := by decide +kernel
theorem dX8_readPerson_77 : decode cX8_readPerson 77 = .ok (.invokevirtual 82, 3) := by decide +kernel
theorem dX8_readPerson_80 : decode cX8_readPerson 80 = .ok (.iinc 2 1, 3) := by decide +kernel
theorem dX8_readPerson_83 : decode cX8_readPerson 83 = .ok (.goto (-30), 3) := by decide +kernel
theorem dX8_readPerson_86 : decode cX8_readPerson 86 = .ok (.aload_n 0, 1) := by decide +kernel
theorem dX8_readPerson_87 : decode cX8_readPerson 87 = .ok (.getfield 18, 3) := by decide +kernel
theorem dX8_readPerson_90 : decode cX8_readPerson 90 = .ok (.invokevirtual 65, 3) := by decide +kernel
theorem dX8_readPerson_93 : decode cX8_readPerson 93 = .ok (.aload_n 0, 1) := by decide +kernel
theorem dX8_readPerson_94 : decode cX8_readPerson 94 = .ok (.getfield 12, 3) := by decide +kernel
theorem dX8_readPerson_97 : decode cX8_readPerson 97 = .ok (.getfield 86, 3) := by decide +kernel
theorem dX8_readPerson_100 : decode cX8_readPerson 100 = .ok (.iload_n 1, 1) := by decide +kernel
theorem dX8_readPerson_101 : decode cX8_readPerson 101 = .ok (.aload_n 0, 1) := by decide +kernel
theorem dX8_readPerson_102 : decode cX8_readPerson 102 = .ok (.invokevirtual 90, 3) := by decide +kernel
theorem dX8_readPerson_105 : decode cX8_readPerson 105 = .ok (.invokestatic 93, 3) := by decide +kernel
theorem dX8_readPerson_108 : decode cX8_readPerson 108 = .ok (.aload_n 0, 1) := by decide +kernel
theorem dX8_readPerson_109 : decode cX8_readPerson 109 = .ok (.invokevirtual 97, 3) := by decide +kernel
theorem dX8_readPerson_112 : decode cX8_readPerson 112 = .ok (.return_, 1) := by decide +kernel
theorem dX8_checkNewName_0 : decode cX8_checkNewName 0 = .ok (.aload_n 0, 1) := by decide +kernel
theorem dX8_checkNewName_1 : decode cX8_checkNewName 1 = .ok (.getfield 18, 3) := by decide +kernel
theorem dX8_checkNewName_4 : decode cX8_checkNewName 4 = .ok (.getfield 35, 3) := by decide +kernel
theorem dX8_checkNewName_7 : decode cX8_checkNewName 7 = .ok (.iconst 1, 1) := by decide +kernel
theorem dX8_checkNewName_8 : decode cX8_checkNewName 8 = .ok (.if_icmp .ne 15, 3) := by decide +kernel
theorem dX8_checkNewName_11 : decode cX8_checkNewName 11 = .ok (.aload_n 0, 1) := by decide +kernel
theorem dX8_checkNewName_12 : decode cX8_checkNewName 12 = .ok (.getfield 18, 3) := by decide +kernel
theorem dX8_checkNewName_15 : decode cX8_checkNewName 15 = .ok (.invokevirtual 75, 3) := by decide +kernel
theorem dX8_checkNewName_18 : decode cX8_checkNewName 18 = .ok (.bipush 8, 2) := by decide +kernel
theorem dX8_checkNewName_20 : decode cX8_checkNewName 20 = .ok (.if_icmp .le 14, 3) := by decide +kernel
theorem dX8_checkNewName_23 : decode cX8_checkNewName 23 = .ok (.aload_n 0, 1) := by decide +kernel
theorem dX8_checkNewName_24 : decode cX8_checkNewName 24 = .ok (.getfield 18, 3) := by decide +kernel
theorem dX8_checkNewName_27 : decode cX8_checkNewName 27 = .ok (.iconst 1, 1) := by decide +kernel
theorem dX8_checkNewName_28 : decode cX8_checkNewName 28 = .ok (.invokevirtual 53, 3) := by decide +kernel
theorem dX8_checkNewName_31 : decode cX8_checkNewName 31 = .ok (.goto 19, 3) := by decide +kernel
theorem dX8_checkNewName_34 : decode cX8_checkNewName 34 = .ok (.aload_n 0, 1) := by decide +kernel
theorem dX8_checkNewName_35 : decode cX8_checkNewName 35 = .ok (.invokevirtual 100, 3) := by decide +kernel
theorem dX8_checkNewName_38 : decode cX8_checkNewName 38 = .ok (.iconst (-1), 1) := by decide +kernel
theorem dX8_checkNewName_39 : decode cX8_checkNewName 39 = .ok (.if_icmp .eq 11, 3) := by decide +kernel
theorem dX8_checkNewName_42 : decode cX8_checkNewName 42 = .ok (.aload_n 0, 1) := by decide +kernel
theorem dX8_checkNewName_43 : decode cX8_checkNewName 43 = .ok (.getfield 18, 3) := by decide +kernel
theorem dX8_checkNewName_46 : decode cX8_checkNewName 46 = .ok (.iconst 4, 1) := by decide +kernel
theorem dX8_checkNewName_47 : decode cX8_checkNewName 47 = .ok (.invokevirtual 53, 3) := by decide +kernel
theorem dX8_checkNewName_50 : decode cX8_checkNewName 50 = .ok (.return_, 1) := by decide +kernel
theorem dX8_readUnion_0 : decode cX8_readUnion 0 = .ok (.aload_n 0, 1) := by decide +kernel
theorem dX8_readUnion_1 : decode cX8_readUnion 1 = .ok (.getfield 12, 3) := by decide +kernel
theorem dX8_readUnion_4 : decode cX8_readUnion 4 = .ok (.getfield 103, 3) := by decide +kernel
theorem dX8_readUnion_7 : decode cX8_readUnion 7 = .ok (.bipush 12, 2) := by decide +kernel
theorem dX8_readUnion_9 : decode cX8_readUnion 9 = .ok (.if_icmp .lt 12, 3) := by decide +kernel
theorem dX8_readUnion_12 : decode cX8_readUnion 12 = .ok (.aload_n 0, 1) := by decide +kernel
theorem dX8_readUnion_13 : decode cX8_readUnion 13 = .ok (.getfield 18, 3) := by decide +kernel
theorem dX8_readUnion_16 : decode cX8_readUnion 16 = .ok (.iconst 3, 1) := by decide +kernel
theorem dX8_readUnion_17 : decode cX8_readUnion 17 = .ok (.invokevirtual 53, 3) := by decide +kernel
theorem dX8_readUnion_20 : decode cX8_readUnion 20 = .ok (.return_, 1) := by decide +kernel
theorem dX8_readUnion_21 : decode cX8_readUnion 21 = .ok (.aload_n 0, 1) := by decide +kernel
theorem dX8_readUnion_22 : decode cX8_readUnion 22 = .ok (.getfield 18, 3) := by decide +kernel
theorem dX8_readUnion_25 : decode cX8_readUnion 25 = .ok (.invokevirtual 65, 3) := by decide +kernel
theorem dX8_readUnion_28 : decode cX8_readUnion 28 = .ok (.aload_n 0, 1) := by decide +kernel
theorem dX8_readUnion_29 : decode cX8_readUnion 29 = .ok (.invokevirtual 106, 3) := by decide +kernel
theorem dX8_readUnion_32 : decode cX8_readUnion 32 = .ok (.istore_n 1, 1) := by decide +kernel
theorem dX8_readUnion_33 : decode cX8_readUnion 33 = .ok (.aload_n 0, 1) := by decide +kernel
theorem dX8_readUnion_34 : decode cX8_readUnion 34 = .ok (.getfield 18, 3) := by decide +kernel
theorem dX8_readUnion_37 : decode cX8_readUnion 37 = .ok (.invokevirtual 65, 3) := by decide +kernel
theorem dX8_readUnion_40 : decode cX8_readUnion 40 = .ok (.aload_n 0, 1) := by decide +kernel
theorem dX8_readUnion_41 : decode cX8_readUnion 41 = .ok (.invokevirtual 106, 3) := by decide +kernel
theorem dX8_readUnion_44 : decode cX8_readUnion 44 = .ok (.istore_n 2, 1) := by decide +kernel
theorem dX8_readUnion_45 : decode cX8_readUnion 45 = .ok (.aload_n 0, 1) := by decide +kernel
theorem dX8_readUnion_46 : decode cX8_readUnion 46 = .ok (.iload_n 1, 1) := by decide +kernel
theorem dX8_readUnion_47 : decode cX8_readUnion 47 = .ok (.iload_n 2, 1) := by decide +kernel
theorem dX8_readUnion_48 : decode cX8_readUnion 48 = .ok (.invokevirtual 109, 3) := by decide +kernel
theorem dX8_readUnion_51 : decode cX8_readUnion 51 = .ok (.aload_n 0, 1) := by decide +kernel
theorem dX8_readUnion_52 : decode cX8_readUnion 52 = .ok (.getfield 18, 3) := by decide +kernel
theorem dX8_readUnion_55 : decode cX8_readUnion 55 = .ok (.invokevirtual 65, 3) := by decide +kernel
theorem dX8_readUnion_58 : decode cX8_readUnion 58 = .ok (.aload_n 0, 1) := by decide +kernel
theorem dX8_readUnion_59 : decode cX8_readUnion 59 = .ok (.invokevirtual 90, 3) := by decide +kernel
theorem dX8_readUnion_62 : decode cX8_readUnion 62 = .ok (.istore_n 3, 1) := by decide +kernel
theorem dX8_readUnion_63 : decode cX8_readUnion 63 = .ok (.aload_n 0, 1) := by decide +kernel
theorem dX8_readUnion_64 : decode cX8_readUnion 64 = .ok (.getfield 18, 3) := by decide +kernel
theorem dX8_readUnion_67 : decode cX8_readUnion 67 = .ok (.invokevirtual 31, 3) := by decide +kernel
theorem dX8_readUnion_70 : decode cX8_readUnion 70 = .ok (.ifCond .ne 4, 3) := by decide +kernel
theorem dX8_readUnion_73 : decode cX8_readUnion 73 = .ok (.return_, 1) := by decide +kernel
theorem dX8_readUnion_74 : decode cX8_readUnion 74 = .ok (.aload_n 0, 1) := by decide +kernel
theorem dX8_readUnion_75 : decode cX8_readUnion 75 = .ok (.getfield 12, 3) := by decide +kernel
theorem dX8_readUnion_78 : decode cX8_readUnion 78 = .ok (.iload_n 1, 1) := by decide +kernel
theorem dX8_readUnion_79 : decode cX8_readUnion 79 = .ok (.iload_n 2, 1) := by decide +kernel
theorem dX8_readUnion_80 : decode cX8_readUnion 80 = .ok (.iload_n 3, 1) := by decide +kernel
theorem dX8_readUnion_81 : decode cX8_readUnion 81 = .ok (.invokevirtual 112, 3) := by decide +kernel
theorem dX8_readUnion_84 : decode cX8_readUnion 84 = .ok (.istore 4, 2) := by decide +kernel
theorem dX8_readUnion_86 : decode cX8_readUnion 86 = .ok (.iconst 0, 1) := by decide +kernel
theorem dX8_readUnion_87 : decode cX8_readUnion 87 = .ok (.istore 5, 2) := by decide +kernel
theorem dX8_readUnion_89 : decode cX8_readUnion 89 = .ok (.iload 5, 2) := by decide +kernel
theorem dX8_readUnion_91 : decode cX8_readUnion 91 = .ok (.sipush 800, 3) := by decide +kernel
theorem dX8_readUnion_94 : decode cX8_readUnion 94 = .ok (.if_icmp .ge 36, 3) := by decide +kernel
theorem dX8_readUnion_97 : decode cX8_readUnion 97 = .ok (.aload_n 0, 1) := by decide +kernel
theorem dX8_readUnion_98 : decode cX8_readUnion 98 = .ok (.getfield 18, 3) := by decide +kernel
theorem dX8_readUnion_101 : decode cX8_readUnion 101 = .ok (.invokevirtual 31, 3) := by decide +kernel
theorem dX8_readUnion_104 : decode cX8_readUnion 104 = .ok (.ifCond .eq 26, 3) := by decide +kernel
theorem dX8_readUnion_107 : decode cX8_readUnion 107 = .ok (.aload_n 0, 1) := by decide +kernel
theorem dX8_readUnion_108 : decode cX8_readUnion 108 = .ok (.getfield 18, 3) := by decide +kernel
theorem dX8_readUnion_111 : decode cX8_readUnion 111 = .ok (.getfield 35, 3) := by decide +kernel
theorem dX8_readUnion_114 : decode cX8_readUnion 114 = .ok (.iconst 1, 1) := by decide +kernel
theorem dX8_readUnion_115 : decode cX8_readUnion 115 = .ok (.if_icmp .ne 15, 3) := by decide +kernel
theorem dX8_readUnion_118 : decode cX8_readUnion 118 = .ok (.aload_n 0, 1) := by decide +kernel
theorem dX8_readUnion_119 : decode cX8_readUnion 119 = .ok (.iload 4, 2) := by decide +kernel
theorem dX8_readUnion_121 : decode cX8_readUnion 121 = .ok (.invokevirtual 116, 3) := by decide +kernel
theorem dX8_readUnion_124 : decode cX8_readUnion 124 = .ok (.iinc 5 1, 3) := by decide +kernel
theorem dX8_readUnion_127 : decode cX8_readUnion 127 = .ok (.goto (-38), 3) := by decide +kernel
theorem dX8_readUnion_130 : decode cX8_readUnion 130 = .ok (.aload_n 0, 1) := by decide +kernel
theorem dX8_readUnion_131 : decode cX8_readUnion 131 = .ok (.invokevirtual 97, 3) := by decide +kernel
theorem dX8_readUnion_134 : decode cX8_readUnion 134 = .ok (.return_, 1) := by decide +kernel
theorem dX8_checkPair_0 : decode cX8_checkPair 0 = .ok (.iload_n 1, 1) := by decide +kernel
theorem dX8_checkPair_1 : decode cX8_checkPair 1 = .ok (.iload_n 2, 1) := by decide +kernel
theorem dX8_checkPair_2 : decode cX8_checkPair 2 = .ok (.if_icmp .eq 16, 3) := by decide +kernel
theorem dX8_checkPair_5 : decode cX8_checkPair 5 = .ok (.aload_n 0, 1) := by decide +kernel
theorem dX8_checkPair_6 : decode cX8_checkPair 6 = .ok (.getfield 12, 3) := by decide +kernel
theorem dX8_checkPair_9 : decode cX8_checkPair 9 = .ok (.iload_n 1, 1) := by decide +kernel
theorem dX8_checkPair_10 : decode cX8_checkPair 10 = .ok (.iload_n 2, 1) := by decide +kernel
theorem dX8_checkPair_11 : decode cX8_checkPair 11 = .ok (.invokevirtual 119, 3) := by decide +kernel
theorem dX8_checkPair_14 : decode cX8_checkPair 14 = .ok (.iconst (-1), 1) := by decide +kernel
theorem dX8_checkPair_15 : decode cX8_checkPair 15 = .ok (.if_icmp .eq 11, 3) := by decide +kernel
theorem dX8_checkPair_18 : decode cX8_checkPair 18 = .ok (.aload_n 0, 1) := by decide +kernel
theorem dX8_checkPair_19 : decode cX8_checkPair 19 = .ok (.getfield 18, 3) := by decide +kernel
theorem dX8_checkPair_22 : decode cX8_checkPair 22 = .ok (.iconst 5, 1) := by decide +kernel
theorem dX8_checkPair_23 : decode cX8_checkPair 23 = .ok (.invokevirtual 53, 3) := by decide +kernel
theorem dX8_checkPair_26 : decode cX8_checkPair 26 = .ok (.return_, 1) := by decide +kernel
theorem dX8_readChild_0 : decode cX8_readChild 0 = .ok (.aload_n 0, 1) := by decide +kernel
theorem dX8_readChild_1 : decode cX8_readChild 1 = .ok (.invokevirtual 106, 3) := by decide +kernel
theorem dX8_readChild_4 : decode cX8_readChild 4 = .ok (.istore_n 2, 1) := by decide +kernel
theorem dX8_readChild_5 : decode cX8_readChild 5 = .ok (.aload_n 0, 1) := by decide +kernel
theorem dX8_readChild_6 : decode cX8_readChild 6 = .ok (.getfield 18, 3) := by decide +kernel
theorem dX8_readChild_9 : decode cX8_readChild 9 = .ok (.invokevirtual 31, 3) := by decide +kernel
theorem dX8_readChild_12 : decode cX8_readChild 12 = .ok (.ifCond .ne 4, 3) := by decide +kernel
theorem dX8_readChild_15 : decode cX8_readChild 15 = .ok (.return_, 1) := by decide +kernel
theorem dX8_readChild_16 : decode cX8_readChild 16 = .ok (.aload_n 0, 1) := by decide +kernel
theorem dX8_readChild_17 : decode cX8_readChild 17 = .ok (.getfield 12, 3) := by decide +kernel
theorem dX8_readChild_20 : decode cX8_readChild 20 = .ok (.iload_n 2, 1) := by decide +kernel
theorem dX8_readChild_21 : decode cX8_readChild 21 = .ok (.invokevirtual 123, 3) := by decide +kernel
theorem dX8_readChild_24 : decode cX8_readChild 24 = .ok (.ifCond .ne 15, 3) := by decide +kernel
theorem dX8_readChild_27 : decode cX8_readChild 27 = .ok (.aload_n 0, 1) := by decide +kernel
theorem dX8_readChild_28 : decode cX8_readChild 28 = .ok (.getfield 12, 3) := by decide +kernel
theorem dX8_readChild_31 : decode cX8_readChild 31 = .ok (.iload_n 1, 1) := by decide +kernel
theorem dX8_readChild_32 : decode cX8_readChild 32 = .ok (.iload_n 2, 1) := by decide +kernel
theorem dX8_readChild_33 : decode cX8_readChild 33 = .ok (.invokevirtual 127, 3) := by decide +kernel
theorem dX8_readChild_36 : decode cX8_readChild 36 = .ok (.ifCond .eq 12, 3) := by decide +kernel
theorem dX8_readChild_39 : decode cX8_readChild 39 = .ok (.aload_n 0, 1) := by decide +kernel
theorem dX8_readChild_40 : decode cX8_readChild 40 = .ok (.getfield 18, 3) := by decide +kernel
theorem dX8_readChild_43 : decode cX8_readChild 43 = .ok (.iconst 5, 1) := by decide +kernel
theorem dX8_readChild_44 : decode cX8_readChild 44 = .ok (.invokevirtual 53, 3) := by decide +kernel
theorem dX8_readChild_47 : decode cX8_readChild 47 = .ok (.return_, 1) := by decide +kernel
theorem dX8_readChild_48 : decode cX8_readChild 48 = .ok (.aload_n 0, 1) := by decide +kernel
theorem dX8_readChild_49 : decode cX8_readChild 49 = .ok (.getfield 12, 3) := by decide +kernel
theorem dX8_readChild_52 : decode cX8_readChild 52 = .ok (.getfield 131, 3) := by decide +kernel
theorem dX8_readChild_55 : decode cX8_readChild 55 = .ok (.iload_n 2, 1) := by decide +kernel
theorem dX8_readChild_56 : decode cX8_readChild 56 = .ok (.iload_n 1, 1) := by decide +kernel
theorem dX8_readChild_57 : decode cX8_readChild 57 = .ok (.invokestatic 93, 3) := by decide +kernel
theorem dX8_readChild_60 : decode cX8_readChild 60 = .ok (.aload_n 0, 1) := by decide +kernel
theorem dX8_readChild_61 : decode cX8_readChild 61 = .ok (.getfield 18, 3) := by decide +kernel
theorem dX8_readChild_64 : decode cX8_readChild 64 = .ok (.invokevirtual 65, 3) := by decide +kernel
theorem dX8_readChild_67 : decode cX8_readChild 67 = .ok (.return_, 1) := by decide +kernel
theorem dX8_checkedPerson_0 : decode cX8_checkedPerson 0 = .ok (.aload_n 0, 1) := by decide +kernel
theorem dX8_checkedPerson_1 : decode cX8_checkedPerson 1 = .ok (.getfield 18, 3) := by decide +kernel
theorem dX8_checkedPerson_4 : decode cX8_checkedPerson 4 = .ok (.getfield 35, 3) := by decide +kernel
theorem dX8_checkedPerson_7 : decode cX8_checkedPerson 7 = .ok (.iconst 1, 1) := by decide +kernel
theorem dX8_checkedPerson_8 : decode cX8_checkedPerson 8 = .ok (.if_icmp .eq 13, 3) := by decide +kernel
theorem dX8_checkedPerson_11 : decode cX8_checkedPerson 11 = .ok (.aload_n 0, 1) := by decide +kernel
theorem dX8_checkedPerson_12 : decode cX8_checkedPerson 12 = .ok (.getfield 18, 3) := by decide +kernel
theorem dX8_checkedPerson_15 : decode cX8_checkedPerson 15 = .ok (.iconst 1, 1) := by decide +kernel
theorem dX8_checkedPerson_16 : decode cX8_checkedPerson 16 = .ok (.invokevirtual 53, 3) := by decide +kernel
theorem dX8_checkedPerson_19 : decode cX8_checkedPerson 19 = .ok (.iconst (-1), 1) := by decide +kernel
theorem dX8_checkedPerson_20 : decode cX8_checkedPerson 20 = .ok (.ireturn, 1) := by decide +kernel
theorem dX8_checkedPerson_21 : decode cX8_checkedPerson 21 = .ok (.aload_n 0, 1) := by decide +kernel
theorem dX8_checkedPerson_22 : decode cX8_checkedPerson 22 = .ok (.invokevirtual 100, 3) := by decide +kernel
theorem dX8_checkedPerson_25 : decode cX8_checkedPerson 25 = .ok (.istore_n 1, 1) := by decide +kernel
theorem dX8_checkedPerson_26 : decode cX8_checkedPerson 26 = .ok (.iload_n 1, 1) := by decide +kernel
theorem dX8_checkedPerson_27 : decode cX8_checkedPerson 27 = .ok (.iconst (-1), 1) := by decide +kernel
theorem dX8_checkedPerson_28 : decode cX8_checkedPerson 28 = .ok (.if_icmp .ne 11, 3) := by decide +kernel
theorem dX8_checkedPerson_31 : decode cX8_checkedPerson 31 = .ok (.aload_n 0, 1) := by decide +kernel
theorem dX8_checkedPerson_32 : decode cX8_checkedPerson 32 = .ok (.getfield 18, 3) := by decide +kernel
theorem dX8_checkedPerson_35 : decode cX8_checkedPerson 35 = .ok (.iconst 4, 1) := by decide +kernel
theorem dX8_checkedPerson_36 : decode cX8_checkedPerson 36 = .ok (.invokevirtual 53, 3) := by decide +kernel
theorem dX8_checkedPerson_39 : decode cX8_checkedPerson 39 = .ok (.iload_n 1, 1) := by decide +kernel
theorem dX8_checkedPerson_40 : decode cX8_checkedPerson 40 = .ok (.ireturn, 1) := by decide +kernel
theorem dX8_personNamed_0 : decode cX8_personNamed 0 = .ok (.iconst 0, 1) := by decide +kernel
theorem dX8_personNamed_1 : decode cX8_personNamed 1 = .ok (.istore_n 1, 1) := by decide +kernel
theorem dX8_personNamed_2 : decode cX8_personNamed 2 = .ok (.iload_n 1, 1) := by decide +kernel
theorem dX8_personNamed_3 : decode cX8_personNamed 3 = .ok (.aload_n 0, 1) := by decide +kernel
theorem dX8_personNamed_4 : decode cX8_personNamed 4 = .ok (.getfield 12, 3) := by decide +kernel
theorem dX8_personNamed_7 : decode cX8_personNamed 7 = .ok (.getfield 62, 3) := by decide +kernel
theorem dX8_personNamed_10 : decode cX8_personNamed 10 = .ok (.if_icmp .ge 43, 3) := by decide +kernel
theorem dX8_personNamed_13 : decode cX8_personNamed 13 = .ok (.aload_n 0, 1) := by decide +kernel
theorem dX8_personNamed_14 : decode cX8_personNamed 14 = .ok (.getfield 18, 3) := by decide +kernel
theorem dX8_personNamed_17 : decode cX8_personNamed 17 = .ok (.aload_n 0, 1) := by decide +kernel
theorem dX8_personNamed_18 : decode cX8_personNamed 18 = .ok (.getfield 12, 3) := by decide +kernel
theorem dX8_personNamed_21 : decode cX8_personNamed 21 = .ok (.getfield 134, 3) := by decide +kernel
theorem dX8_personNamed_24 : decode cX8_personNamed 24 = .ok (.iload_n 1, 1) := by decide +kernel
theorem dX8_personNamed_25 : decode cX8_personNamed 25 = .ok (.bipush 8, 2) := by decide +kernel
theorem dX8_personNamed_27 : decode cX8_personNamed 27 = .ok (.imul, 1) := by decide +kernel
theorem dX8_personNamed_28 : decode cX8_personNamed 28 = .ok (.aload_n 0, 1) := by decide +kernel
theorem dX8_personNamed_29 : decode cX8_personNamed 29 = .ok (.getfield 12, 3) := by decide +kernel
theorem dX8_personNamed_32 : decode cX8_personNamed 32 = .ok (.getfield 137, 3) := by decide +kernel
theorem dX8_personNamed_35 : decode cX8_personNamed 35 = .ok (.iload_n 1, 1) := by decide +kernel
theorem dX8_personNamed_36 : decode cX8_personNamed 36 = .ok (.invokestatic 140, 3) := by decide +kernel
theorem dX8_personNamed_39 : decode cX8_personNamed 39 = .ok (.invokevirtual 144, 3) := by decide +kernel
theorem dX8_personNamed_42 : decode cX8_personNamed 42 = .ok (.ifCond .eq 5, 3) := by decide +kernel
theorem dX8_personNamed_45 : decode cX8_personNamed 45 = .ok (.iload_n 1, 1) := by decide +kernel
theorem dX8_personNamed_46 : decode cX8_personNamed 46 = .ok (.ireturn, 1) := by decide +kernel
theorem dX8_personNamed_47 : decode cX8_personNamed 47 = .ok (.iinc 1 1, 3) := by decide +kernel
theorem dX8_personNamed_50 : decode cX8_personNamed 50 = .ok (.goto (-48), 3) := by decide +kernel
theorem dX8_personNamed_53 : decode cX8_personNamed 53 = .ok (.iconst (-1), 1) := by decide +kernel
theorem dX8_personNamed_54 : decode cX8_personNamed 54 = .ok (.ireturn, 1) := by decide +kernel
theorem dX8_readYear_0 : decode cX8_readYear 0 = .ok (.aload_n 0, 1) := by decide +kernel
theorem dX8_readYear_1 : decode cX8_readYear 1 = .ok (.getfield 18, 3) := by decide +kernel
theorem dX8_readYear_4 : decode cX8_readYear 4 = .ok (.getfield 148, 3) := by decide +kernel
theorem dX8_readYear_7 : decode cX8_readYear 7 = .ok (.istore_n 1, 1) := by decide +kernel
theorem dX8_readYear_8 : decode cX8_readYear 8 = .ok (.aload_n 0, 1) := by decide +kernel
theorem dX8_readYear_9 : decode cX8_readYear 9 = .ok (.getfield 18, 3) := by decide +kernel
theorem dX8_readYear_12 : decode cX8_readYear 12 = .ok (.getfield 35, 3) := by decide +kernel
theorem dX8_readYear_15 : decode cX8_readYear 15 = .ok (.iconst 2, 1) := by decide +kernel
theorem dX8_readYear_16 : decode cX8_readYear 16 = .ok (.if_icmp .eq 14, 3) := by decide +kernel
theorem dX8_readYear_19 : decode cX8_readYear 19 = .ok (.aload_n 0, 1) := by decide +kernel
theorem dX8_readYear_20 : decode cX8_readYear 20 = .ok (.getfield 18, 3) := by decide +kernel
theorem dX8_readYear_23 : decode cX8_readYear 23 = .ok (.iconst 1, 1) := by decide +kernel
theorem dX8_readYear_24 : decode cX8_readYear 24 = .ok (.invokevirtual 53, 3) := by decide +kernel
theorem dX8_readYear_27 : decode cX8_readYear 27 = .ok (.goto 18, 3) := by decide +kernel
theorem dX8_readYear_30 : decode cX8_readYear 30 = .ok (.iload_n 1, 1) := by decide +kernel
theorem dX8_readYear_31 : decode cX8_readYear 31 = .ok (.sipush 2100, 3) := by decide +kernel
theorem dX8_readYear_34 : decode cX8_readYear 34 = .ok (.if_icmp .le 11, 3) := by decide +kernel
theorem dX8_readYear_37 : decode cX8_readYear 37 = .ok (.aload_n 0, 1) := by decide +kernel
theorem dX8_readYear_38 : decode cX8_readYear 38 = .ok (.getfield 18, 3) := by decide +kernel
theorem dX8_readYear_41 : decode cX8_readYear 41 = .ok (.iconst 2, 1) := by decide +kernel
theorem dX8_readYear_42 : decode cX8_readYear 42 = .ok (.invokevirtual 53, 3) := by decide +kernel
theorem dX8_readYear_45 : decode cX8_readYear 45 = .ok (.aload_n 0, 1) := by decide +kernel
theorem dX8_readYear_46 : decode cX8_readYear 46 = .ok (.getfield 18, 3) := by decide +kernel
theorem dX8_readYear_49 : decode cX8_readYear 49 = .ok (.invokevirtual 65, 3) := by decide +kernel
theorem dX8_readYear_52 : decode cX8_readYear 52 = .ok (.iload_n 1, 1) := by decide +kernel
theorem dX8_readYear_53 : decode cX8_readYear 53 = .ok (.ireturn, 1) := by decide +kernel
theorem dX8_readSemicolon_0 : decode cX8_readSemicolon 0 = .ok (.aload_n 0, 1) := by decide +kernel
theorem dX8_readSemicolon_1 : decode cX8_readSemicolon 1 = .ok (.getfield 18, 3) := by decide +kernel
theorem dX8_readSemicolon_4 : decode cX8_readSemicolon 4 = .ok (.bipush 59, 2) := by decide +kernel
theorem dX8_readSemicolon_6 : decode cX8_readSemicolon 6 = .ok (.invokevirtual 151, 3) := by decide +kernel
theorem dX8_readSemicolon_9 : decode cX8_readSemicolon 9 = .ok (.ifCond .ne 11, 3) := by decide +kernel
theorem dX8_readSemicolon_12 : decode cX8_readSemicolon 12 = .ok (.aload_n 0, 1) := by decide +kernel
theorem dX8_readSemicolon_13 : decode cX8_readSemicolon 13 = .ok (.getfield 18, 3) := by decide +kernel
theorem dX8_readSemicolon_16 : decode cX8_readSemicolon 16 = .ok (.iconst 1, 1) := by decide +kernel
theorem dX8_readSemicolon_17 : decode cX8_readSemicolon 17 = .ok (.invokevirtual 53, 3) := by decide +kernel
theorem dX8_readSemicolon_20 : decode cX8_readSemicolon 20 = .ok (.aload_n 0, 1) := by decide +kernel
theorem dX8_readSemicolon_21 : decode cX8_readSemicolon 21 = .ok (.getfield 18, 3) := by decide +kernel
theorem dX8_readSemicolon_24 : decode cX8_readSemicolon 24 = .ok (.invokevirtual 65, 3) := by decide +kernel
theorem dX8_readSemicolon_27 : decode cX8_readSemicolon 27 = .ok (.return_, 1) := by decide +kernel
theorem dX9_init_0 : decode cX9_init 0 = .ok (.aload_n 0, 1) := by decide +kernel
theorem dX9_init_1 : decode cX9_init 1 = .ok (.invokespecial 3, 3) := by decide +kernel
theorem dX9_init_4 : decode cX9_init 4 = .ok (.aload_n 0, 1) := by decide +kernel
theorem dX9_init_5 : decode cX9_init 5 = .ok (.new 9, 3) := by decide +kernel
theorem dX9_init_8 : decode cX9_init 8 = .ok (.dup, 1) := by decide +kernel
theorem dX9_init_9 : decode cX9_init 9 = .ok (.invokespecial 11, 3) := by decide +kernel
theorem dX9_init_12 : decode cX9_init 12 = .ok (.putfield 12, 3) := by decide +kernel
theorem dX9_init_15 : decode cX9_init 15 = .ok (.aload_n 0, 1) := by decide +kernel
theorem dX9_init_16 : decode cX9_init 16 = .ok (.new 16, 3) := by decide +kernel
theorem dX9_init_19 : decode cX9_init 19 = .ok (.dup, 1) := by decide +kernel
theorem dX9_init_20 : decode cX9_init 20 = .ok (.invokespecial 18, 3) := by decide +kernel
theorem dX9_init_23 : decode cX9_init 23 = .ok (.putfield 19, 3) := by decide +kernel
theorem dX9_init_26 : decode cX9_init 26 = .ok (.aload_n 0, 1) := by decide +kernel
theorem dX9_init_27 : decode cX9_init 27 = .ok (.new 23, 3) := by decide +kernel
theorem dX9_init_30 : decode cX9_init 30 = .ok (.dup, 1) := by decide +kernel
theorem dX9_init_31 : decode cX9_init 31 = .ok (.aload_n 0, 1) := by decide +kernel
theorem dX9_init_32 : decode cX9_init 32 = .ok (.getfield 19, 3) := by decide +kernel
theorem dX9_init_35 : decode cX9_init 35 = .ok (.invokespecial 25, 3) := by decide +kernel
theorem dX9_init_38 : decode cX9_init 38 = .ok (.putfield 28, 3) := by decide +kernel
theorem dX9_init_41 : decode cX9_init 41 = .ok (.aload_n 0, 1) := by decide +kernel
theorem dX9_init_42 : decode cX9_init 42 = .ok (.new 32, 3) := by decide +kernel
theorem dX9_init_45 : decode cX9_init 45 = .ok (.dup, 1) := by decide +kernel
theorem dX9_init_46 : decode cX9_init 46 = .ok (.aload_n 0, 1) := by decide +kernel
theorem dX9_init_47 : decode cX9_init 47 = .ok (.getfield 19, 3) := by decide +kernel
theorem dX9_init_50 : decode cX9_init 50 = .ok (.invokespecial 34, 3) := by decide +kernel
theorem dX9_init_53 : decode cX9_init 53 = .ok (.putfield 35, 3) := by decide +kernel
theorem dX9_init_56 : decode cX9_init 56 = .ok (.aload_n 0, 1) := by decide +kernel
theorem dX9_init_57 : decode cX9_init 57 = .ok (.new 39, 3) := by decide +kernel
theorem dX9_init_60 : decode cX9_init 60 = .ok (.dup, 1) := by decide +kernel
theorem dX9_init_61 : decode cX9_init 61 = .ok (.aload_n 0, 1) := by decide +kernel
theorem dX9_init_62 : decode cX9_init 62 = .ok (.getfield 19, 3) := by decide +kernel
theorem dX9_init_65 : decode cX9_init 65 = .ok (.aload_n 0, 1) := by decide +kernel
theorem dX9_init_66 : decode cX9_init 66 = .ok (.getfield 35, 3) := by decide +kernel
theorem dX9_init_69 : decode cX9_init 69 = .ok (.invokespecial 41, 3) := by decide +kernel
theorem dX9_init_72 : decode cX9_init 72 = .ok (.putfield 44, 3) := by decide +kernel
theorem dX9_init_75 : decode cX9_init 75 = .ok (.aload_n 0, 1) := by decide +kernel
theorem dX9_init_76 : decode cX9_init 76 = .ok (.new 48, 3) := by decide +kernel
theorem dX9_init_79 : decode cX9_init 79 = .ok (.dup, 1) := by decide +kernel
theorem dX9_init_80 : decode cX9_init 80 = .ok (.aload_n 0, 1) := by decide +kernel
theorem dX9_init_81 : decode cX9_init 81 = .ok (.getfield 19, 3) := by decide +kernel
theorem dX9_init_84 : decode cX9_init 84 = .ok (.aload_n 0, 1) := by decide +kernel
theorem dX9_init_85 : decode cX9_init 85 = .ok (.getfield 35, 3) := by decide +kernel
theorem dX9_init_88 : decode cX9_init 88 = .ok (.aload_n 0, 1) := by decide +kernel
theorem dX9_init_89 : decode cX9_init 89 = .ok (.getfield 44, 3) := by decide +kernel
theorem dX9_init_92 : decode cX9_init 92 = .ok (.invokespecial 50, 3) := by decide +kernel
theorem dX9_init_95 : decode cX9_init 95 = .ok (.putfield 53, 3) := by decide +kernel
theorem dX9_init_98 : decode cX9_init 98 = .ok (.aload_n 0, 1) := by decide +kernel
theorem dX9_init_99 : decode cX9_init 99 = .ok (.new 57, 3) := by decide +kernel
theorem dX9_init_102 : decode cX9_init 102 = .ok (.dup, 1) := by decide +kernel
theorem dX9_init_103 : decode cX9_init 103 = .ok (.aload_n 0, 1) := by decide +kernel
theorem dX9_init_104 : decode cX9_init 104 = .ok (.getfield 19, 3) := by decide +kernel
theorem dX9_init_107 : decode cX9_init 107 = .ok (.aload_n 0, 1) := by decide +kernel
theorem dX9_init_108 : decode cX9_init 108 = .ok (.getfield 35, 3) := by decide +kernel
theorem dX9_init_111 : decode cX9_init 111 = .ok (.invokespecial 59, 3) := by decide +kernel
theorem dX9_init_114 : decode cX9_init 114 = .ok (.putfield 60, 3) := by decide +kernel
theorem dX9_init_117 : decode cX9_init 117 = .ok (.aload_n 0, 1) := by decide +kernel
theorem dX9_init_118 : decode cX9_init 118 = .ok (.new 64, 3) := by decide +kernel
theorem dX9_init_121 : decode cX9_init 121 = .ok (.dup, 1) := by decide +kernel
theorem dX9_init_122 : decode cX9_init 122 = .ok (.aload_n 0, 1) := by decide +kernel
theorem dX9_init_123 : decode cX9_init 123 = .ok (.getfield 12, 3) := by decide +kernel
theorem dX9_init_126 : decode cX9_init 126 = .ok (.invokespecial 66, 3) := by decide +kernel
theorem dX9_init_129 : decode cX9_init 129 = .ok (.putfield 69, 3) := by decide +kernel
theorem dX9_init_132 : decode cX9_init 132 = .ok (.aload_n 0, 1) := by decide +kernel
theorem dX9_init_133 : decode cX9_init 133 = .ok (.new 73, 3) := by decide +kernel
theorem dX9_init_136 : decode cX9_init 136 = .ok (.dup, 1) := by decide +kernel
theorem dX9_init_137 : decode cX9_init 137 = .ok (.aload_n 0, 1) := by decide +kernel
theorem dX9_init_138 : decode cX9_init 138 = .ok (.getfield 12, 3) := by decide +kernel
theorem dX9_init_141 : decode cX9_init 141 = .ok (.aload_n 0, 1) := by decide +kernel
theorem dX9_init_142 : decode cX9_init 142 = .ok (.getfield 19, 3) := by decide +kernel
theorem dX9_init_145 : decode cX9_init 145 = .ok (.invokespecial 75, 3) := by decide +kernel
theorem dX9_init_148 : decode cX9_init 148 = .ok (.putfield 78, 3) := by decide +kernel
theorem dX9_init_151 : decode cX9_init 151 = .ok (.return_, 1) := by decide +kernel
theorem dX9_feed_0 : decode cX9_feed 0 = .ok (.aload_n 0, 1) := by decide +kernel
theorem dX9_feed_1 : decode cX9_feed 1 = .ok (.getfield 12, 3) := by decide +kernel
theorem dX9_feed_4 : decode cX9_feed 4 = .ok (.invokevirtual 82, 3) := by decide +kernel
theorem dX9_feed_7 : decode cX9_feed 7 = .ok (.ifCond .ne 5, 3) := by decide +kernel
theorem dX9_feed_10 : decode cX9_feed 10 = .ok (.iconst (-1), 1) := by decide +kernel
theorem dX9_feed_11 : decode cX9_feed 11 = .ok (.ireturn, 1) := by decide +kernel
theorem dX9_feed_12 : decode cX9_feed 12 = .ok (.aload_n 0, 1) := by decide +kernel
theorem dX9_feed_13 : decode cX9_feed 13 = .ok (.getfield 12, 3) := by decide +kernel
theorem dX9_feed_16 : decode cX9_feed 16 = .ok (.iload_n 1, 1) := by decide +kernel
theorem dX9_feed_17 : decode cX9_feed 17 = .ok (.invokevirtual 86, 3) := by decide +kernel
theorem dX9_feed_20 : decode cX9_feed 20 = .ok (.aload_n 0, 1) := by decide +kernel
theorem dX9_feed_21 : decode cX9_feed 21 = .ok (.getfield 12, 3) := by decide +kernel
theorem dX9_feed_24 : decode cX9_feed 24 = .ok (.iload_n 2, 1) := by decide +kernel
theorem dX9_feed_25 : decode cX9_feed 25 = .ok (.invokevirtual 86, 3) := by decide +kernel
theorem dX9_feed_28 : decode cX9_feed 28 = .ok (.aload_n 0, 1) := by decide +kernel
theorem dX9_feed_29 : decode cX9_feed 29 = .ok (.getfield 12, 3) := by decide +kernel
theorem dX9_feed_32 : decode cX9_feed 32 = .ok (.iload_n 3, 1) := by decide +kernel
theorem dX9_feed_33 : decode cX9_feed 33 = .ok (.invokevirtual 86, 3) := by decide +kernel
theorem dX9_feed_36 : decode cX9_feed 36 = .ok (.aload_n 0, 1) := by decide +kernel
theorem dX9_feed_37 : decode cX9_feed 37 = .ok (.getfield 12, 3) := by decide +kernel
theorem dX9_feed_40 : decode cX9_feed 40 = .ok (.iload 4, 2) := by decide +kernel
theorem dX9_feed_42 : decode cX9_feed 42 = .ok (.invokevirtual 86, 3) := by decide +kernel
theorem dX9_feed_45 : decode cX9_feed 45 = .ok (.aload_n 0, 1) := by decide +kernel
theorem dX9_feed_46 : decode cX9_feed 46 = .ok (.getfield 12, 3) := by decide +kernel
theorem dX9_feed_49 : decode cX9_feed 49 = .ok (.iload 5, 2) := by decide +kernel
theorem dX9_feed_51 : decode cX9_feed 51 = .ok (.invokevirtual 86, 3) := by decide +kernel
theorem dX9_feed_54 : decode cX9_feed 54 = .ok (.aload_n 0, 1) := by decide +kernel
theorem dX9_feed_55 : decode cX9_feed 55 = .ok (.getfield 12, 3) := by decide +kernel
theorem dX9_feed_58 : decode cX9_feed 58 = .ok (.getfield 90, 3) := by decide +kernel
theorem dX9_feed_61 : decode cX9_feed 61 = .ok (.ireturn, 1) := by decide +kernel
theorem dX9_load_0 : decode cX9_load 0 = .ok (.iload_n 1, 1) := by decide +kernel
theorem dX9_load_1 : decode cX9_load 1 = .ok (.ifCond .lt 14, 3) := by decide +kernel
theorem dX9_load_4 : decode cX9_load 4 = .ok (.iload_n 1, 1) := by decide +kernel
theorem dX9_load_5 : decode cX9_load 5 = .ok (.aload_n 0, 1) := by decide +kernel
theorem dX9_load_6 : decode cX9_load 6 = .ok (.getfield 12, 3) := by decide +kernel
theorem dX9_load_9 : decode cX9_load 9 = .ok (.getfield 90, 3) := by decide +kernel
theorem dX9_load_12 : decode cX9_load 12 = .ok (.if_icmp .le 13, 3) := by decide +kernel
theorem dX9_load_15 : decode cX9_load 15 = .ok (.new 94, 3) := by decide +kernel
theorem dX9_load_18 : decode cX9_load 18 = .ok (.dup, 1) := by decide +kernel
theorem dX9_load_19 : decode cX9_load 19 = .ok (.ldc 96, 2) := by decide +kernel
theorem dX9_load_21 : decode cX9_load 21 = .ok (.invokespecial 98, 3) := by decide +kernel
theorem dX9_load_24 : decode cX9_load 24 = .ok (.athrow, 1) := by decide +kernel
theorem dX9_load_25 : decode cX9_load 25 = .ok (.aload_n 0, 1) := by decide +kernel
theorem dX9_load_26 : decode cX9_load 26 = .ok (.getfield 69, 3) := by decide +kernel
theorem dX9_load_29 : decode cX9_load 29 = .ok (.iload_n 1, 1) := by decide +kernel
theorem dX9_load_30 : decode cX9_load 30 = .ok (.invokevirtual 101, 3) := by decide +kernel
theorem dX9_load_33 : decode cX9_load 33 = .ok (.istore_n 2, 1) := by decide +kernel
theorem dX9_load_34 : decode cX9_load 34 = .ok (.iload_n 2, 1) := by decide +kernel
theorem dX9_load_35 : decode cX9_load 35 = .ok (.ifCond .eq 8, 3) := by decide +kernel
theorem dX9_load_38 : decode cX9_load 38 = .ok (.bipush (-10), 2) := by decide +kernel
theorem dX9_load_40 : decode cX9_load 40 = .ok (.iload_n 2, 1) := by decide +kernel
theorem dX9_load_41 : decode cX9_load 41 = .ok (.isub, 1) := by decide +kernel
theorem dX9_load_42 : decode cX9_load 42 = .ok (.ireturn, 1) := by decide +kernel
theorem dX9_load_43 : decode cX9_load 43 = .ok (.aload_n 0, 1) := by decide +kernel
theorem dX9_load_44 : decode cX9_load 44 = .ok (.getfield 19, 3) := by decide +kernel
theorem dX9_load_47 : decode cX9_load 47 = .ok (.aload_n 0, 1) := by decide +kernel
theorem dX9_load_48 : decode cX9_load 48 = .ok (.getfield 69, 3) := by decide +kernel
theorem dX9_load_51 : decode cX9_load 51 = .ok (.getfield 105, 3) := by decide +kernel
theorem dX9_load_54 : decode cX9_load 54 = .ok (.invokevirtual 108, 3) := by decide +kernel
theorem dX9_load_57 : decode cX9_load 57 = .ok (.aload_n 0, 1) := by decide +kernel
theorem dX9_load_58 : decode cX9_load 58 = .ok (.getfield 35, 3) := by decide +kernel
theorem dX9_load_61 : decode cX9_load 61 = .ok (.invokevirtual 111, 3) := by decide +kernel
theorem dX9_load_64 : decode cX9_load 64 = .ok (.aload_n 0, 1) := by decide +kernel
theorem dX9_load_65 : decode cX9_load 65 = .ok (.getfield 60, 3) := by decide +kernel
theorem dX9_load_68 : decode cX9_load 68 = .ok (.invokevirtual 114, 3) := by decide +kernel
theorem dX9_load_71 : decode cX9_load 71 = .ok (.aload_n 0, 1) := by decide +kernel
theorem dX9_load_72 : decode cX9_load 72 = .ok (.getfield 19, 3) := by decide +kernel
theorem dX9_load_75 : decode cX9_load 75 = .ok (.getfield 117, 3) := by decide +kernel
theorem dX9_load_78 : decode cX9_load 78 = .ok (.ireturn, 1) := by decide +kernel
theorem dX9_count_0 : decode cX9_count 0 = .ok (.iload_n 1, 1) := by decide +kernel
theorem dX9_count_1 : decode cX9_count 1 = .ok (.tableswitch 107 0 6 #[43, 51, 59, 67, 75, 91, 99], 43) := by decide +kernel
theorem dX9_count_44 : decode cX9_count 44 = .ok (.aload_n 0, 1) := by decide +kernel
theorem dX9_count_45 : decode cX9_count 45 = .ok (.getfield 19, 3) := by decide +kernel
theorem dX9_count_48 : decode cX9_count 48 = .ok (.getfield 117, 3) := by decide +kernel
theorem dX9_count_51 : decode cX9_count 51 = .ok (.ireturn, 1) := by decide +kernel
theorem dX9_count_52 : decode cX9_count 52 = .ok (.aload_n 0, 1) := by decide +kernel
theorem dX9_count_53 : decode cX9_count 53 = .ok (.getfield 19, 3) := by decide +kernel
theorem dX9_count_56 : decode cX9_count 56 = .ok (.getfield 123, 3) := by decide +kernel
theorem dX9_count_59 : decode cX9_count 59 = .ok (.ireturn, 1) := by decide +kernel
theorem dX9_count_60 : decode cX9_count 60 = .ok (.aload_n 0, 1) := by decide +kernel
theorem dX9_count_61 : decode cX9_count 61 = .ok (.getfield 19, 3) := by decide +kernel
theorem dX9_count_64 : decode cX9_count 64 = .ok (.getfield 126, 3) := by decide +kernel
theorem dX9_count_67 : decode cX9_count 67 = .ok (.ireturn, 1) := by decide +kernel
theorem dX9_count_68 : decode cX9_count 68 = .ok (.aload_n 0, 1) := by decide +kernel
theorem dX9_count_69 : decode cX9_count 69 = .ok (.getfield 35, 3) := by decide +kernel
theorem dX9_count_72 : decode cX9_count 72 = .ok (.invokevirtual 129, 3) := by decide +kernel
theorem dX9_count_75 : decode cX9_count 75 = .ok (.ireturn, 1) := by decide +kernel
theorem dX9_count_76 : decode cX9_count 76 = .ok (.aload_n 0, 1) := by decide +kernel
theorem dX9_count_77 : decode cX9_count 77 = .ok (.getfield 35, 3) := by decide +kernel
theorem dX9_count_80 : decode cX9_count 80 = .ok (.invokevirtual 129, 3) := by decide +kernel
theorem dX9_count_83 : decode cX9_count 83 = .ok (.aload_n 0, 1) := by decide +kernel
theorem dX9_count_84 : decode cX9_count 84 = .ok (.getfield 19, 3) := by decide +kernel
theorem dX9_count_87 : decode cX9_count 87 = .ok (.getfield 117, 3) := by decide +kernel
theorem dX9_count_90 : decode cX9_count 90 = .ok (.isub, 1) := by decide +kernel
theorem dX9_count_91 : decode cX9_count 91 = .ok (.ireturn, 1) := by decide +kernel
theorem dX9_count_92 : decode cX9_count 92 = .ok (.aload_n 0, 1) := by decide +kernel
theorem dX9_count_93 : decode cX9_count 93 = .ok (.getfield 19, 3) := by decide +kernel
theorem dX9_count_96 : decode cX9_count 96 = .ok (.invokevirtual 133, 3) := by decide +kernel
theorem dX9_count_99 : decode cX9_count 99 = .ok (.ireturn, 1) := by decide +kernel
theorem dX9_count_100 : decode cX9_count 100 = .ok (.aload_n 0, 1) := by decide +kernel
theorem dX9_count_101 : decode cX9_count 101 = .ok (.getfield 19, 3) := by decide +kernel
theorem dX9_count_104 : decode cX9_count 104 = .ok (.invokevirtual 136, 3) := by decide +kernel
theorem dX9_count_107 : decode cX9_count 107 = .ok (.ireturn, 1) := by decide +kernel
theorem dX9_count_108 : decode cX9_count 108 = .ok (.iconst (-1), 1) := by decide +kernel
theorem dX9_count_109 : decode cX9_count 109 = .ok (.ireturn, 1) := by decide +kernel
theorem dX9_person_0 : decode cX9_person 0 = .ok (.aload_n 0, 1) := by decide +kernel
theorem dX9_person_1 : decode cX9_person 1 = .ok (.iload_n 1, 1) := by decide +kernel
theorem dX9_person_2 : decode cX9_person 2 = .ok (.invokevirtual 139, 3) := by decide +kernel
theorem dX9_person_5 : decode cX9_person 5 = .ok (.iload_n 2, 1) := by decide +kernel
theorem dX9_person_6 : decode cX9_person 6 = .ok (.tableswitch 91 0 4 #[34, 46, 58, 70, 79], 34) := by decide +kernel
theorem dX9_person_40 : decode cX9_person 40 = .ok (.aload_n 0, 1) := by decide +kernel
theorem dX9_person_41 : decode cX9_person 41 = .ok (.getfield 19, 3) := by decide +kernel
theorem dX9_person_44 : decode cX9_person 44 = .ok (.getfield 142, 3) := by decide +kernel
theorem dX9_person_47 : decode cX9_person 47 = .ok (.iload_n 1, 1) := by decide +kernel
theorem dX9_person_48 : decode cX9_person 48 = .ok (.invokestatic 146, 3) := by decide +kernel
theorem dX9_person_51 : decode cX9_person 51 = .ok (.ireturn, 1) := by decide +kernel
theorem dX9_person_52 : decode cX9_person 52 = .ok (.aload_n 0, 1) := by decide +kernel
theorem dX9_person_53 : decode cX9_person 53 = .ok (.getfield 19, 3) := by decide +kernel
theorem dX9_person_56 : decode cX9_person 56 = .ok (.getfield 150, 3) := by decide +kernel
theorem dX9_person_59 : decode cX9_person 59 = .ok (.iload_n 1, 1) := by decide +kernel
theorem dX9_person_60 : decode cX9_person 60 = .ok (.invokestatic 146, 3) := by decide +kernel
theorem dX9_person_63 : decode cX9_person 63 = .ok (.ireturn, 1) := by decide +kernel
theorem dX9_person_64 : decode cX9_person 64 = .ok (.aload_n 0, 1) := by decide +kernel
theorem dX9_person_65 : decode cX9_person 65 = .ok (.getfield 19, 3) := by decide +kernel
theorem dX9_person_68 : decode cX9_person 68 = .ok (.getfield 153, 3) := by decide +kernel
theorem dX9_person_71 : decode cX9_person 71 = .ok (.iload_n 1, 1) := by decide +kernel
theorem dX9_person_72 : decode cX9_person 72 = .ok (.invokestatic 146, 3) := by decide +kernel
theorem dX9_person_75 : decode cX9_person 75 = .ok (.ireturn, 1) := by decide +kernel
theorem dX9_person_76 : decode cX9_person 76 = .ok (.aload_n 0, 1) := by decide +kernel
theorem dX9_person_77 : decode cX9_person 77 = .ok (.getfield 19, 3) := by decide +kernel
theorem dX9_person_80 : decode cX9_person 80 = .ok (.iload_n 1, 1) := by decide +kernel
theorem dX9_person_81 : decode cX9_person 81 = .ok (.invokevirtual 156, 3) := by decide +kernel
theorem dX9_person_84 : decode cX9_person 84 = .ok (.ireturn, 1) := by decide +kernel
theorem dX9_person_85 : decode cX9_person 85 = .ok (.aload_n 0, 1) := by decide +kernel
theorem dX9_person_86 : decode cX9_person 86 = .ok (.getfield 19, 3) := by decide +kernel
theorem dX9_person_89 : decode cX9_person 89 = .ok (.getfield 159, 3) := by decide +kernel
theorem dX9_person_92 : decode cX9_person 92 = .ok (.iload_n 1, 1) := by decide +kernel
theorem dX9_person_93 : decode cX9_person 93 = .ok (.invokestatic 146, 3) := by decide +kernel
theorem dX9_person_96 : decode cX9_person 96 = .ok (.ireturn, 1) := by decide +kernel
theorem dX9_person_97 : decode cX9_person 97 = .ok (.new 162, 3) := by decide +kernel
theorem dX9_person_100 : decode cX9_person 100 = .ok (.dup, 1) := by decide +kernel
theorem dX9_person_101 : decode cX9_person 101 = .ok (.ldc 164, 2) := by decide +kernel
theorem dX9_person_103 : decode cX9_person 103 = .ok (.invokespecial 166, 3) := by decide +kernel
theorem dX9_person_106 : decode cX9_person 106 = .ok (.athrow, 1) := by decide +kernel
theorem dX9_union_0 : decode cX9_union 0 = .ok (.aload_n 0, 1) := by decide +kernel
theorem dX9_union_1 : decode cX9_union 1 = .ok (.iload_n 1, 1) := by decide +kernel
theorem dX9_union_2 : decode cX9_union 2 = .ok (.invokevirtual 167, 3) := by decide +kernel
theorem dX9_union_5 : decode cX9_union 5 = .ok (.iload_n 2, 1) := by decide +kernel
theorem dX9_union_6 : decode cX9_union 6 = .ok (.tableswitch 127 0 6 #[42, 54, 66, 78, 90, 102, 111], 42) := by decide +kernel
theorem dX9_union_48 : decode cX9_union 48 = .ok (.aload_n 0, 1) := by decide +kernel
theorem dX9_union_49 : decode cX9_union 49 = .ok (.getfield 19, 3) := by decide +kernel
theorem dX9_union_52 : decode cX9_union 52 = .ok (.getfield 170, 3) := by decide +kernel
theorem dX9_union_55 : decode cX9_union 55 = .ok (.iload_n 1, 1) := by decide +kernel
theorem dX9_union_56 : decode cX9_union 56 = .ok (.invokestatic 146, 3) := by decide +kernel
theorem dX9_union_59 : decode cX9_union 59 = .ok (.ireturn, 1) := by decide +kernel
theorem dX9_union_60 : decode cX9_union 60 = .ok (.aload_n 0, 1) := by decide +kernel
theorem dX9_union_61 : decode cX9_union 61 = .ok (.getfield 19, 3) := by decide +kernel
theorem dX9_union_64 : decode cX9_union 64 = .ok (.getfield 173, 3) := by decide +kernel
theorem dX9_union_67 : decode cX9_union 67 = .ok (.iload_n 1, 1) := by decide +kernel
theorem dX9_union_68 : decode cX9_union 68 = .ok (.invokestatic 146, 3) := by decide +kernel
theorem dX9_union_71 : decode cX9_union 71 = .ok (.ireturn, 1) := by decide +kernel
theorem dX9_union_72 : decode cX9_union 72 = .ok (.aload_n 0, 1) := by decide +kernel
theorem dX9_union_73 : decode cX9_union 73 = .ok (.getfield 19, 3) := by decide +kernel
theorem dX9_union_76 : decode cX9_union 76 = .ok (.getfield 176, 3) := by decide +kernel
theorem dX9_union_79 : decode cX9_union 79 = .ok (.iload_n 1, 1) := by decide +kernel
theorem dX9_union_80 : decode cX9_union 80 = .ok (.invokestatic 146, 3) := by decide +kernel
theorem dX9_union_83 : decode cX9_union 83 = .ok (.ireturn, 1) := by decide +kernel
theorem dX9_union_84 : decode cX9_union 84 = .ok (.aload_n 0, 1) := by decide +kernel
theorem dX9_union_85 : decode cX9_union 85 = .ok (.getfield 19, 3) := by decide +kernel
theorem dX9_union_88 : decode cX9_union 88 = .ok (.getfield 179, 3) := by decide +kernel
theorem dX9_union_91 : decode cX9_union 91 = .ok (.iload_n 1, 1) := by decide +kernel
theorem dX9_union_92 : decode cX9_union 92 = .ok (.invokestatic 146, 3) := by decide +kernel
theorem dX9_union_95 : decode cX9_union 95 = .ok (.ireturn, 1) := by decide +kernel
theorem dX9_union_96 : decode cX9_union 96 = .ok (.aload_n 0, 1) := by decide +kernel
theorem dX9_union_97 : decode cX9_union 97 = .ok (.getfield 19, 3) := by decide +kernel
theorem dX9_union_100 : decode cX9_union 100 = .ok (.iload_n 1, 1) := by decide +kernel
theorem dX9_union_101 : decode cX9_union 101 = .ok (.invokevirtual 182, 3) := by decide +kernel
theorem dX9_union_104 : decode cX9_union 104 = .ok (.invokestatic 185, 3) := by decide +kernel
theorem dX9_union_107 : decode cX9_union 107 = .ok (.ireturn, 1) := by decide +kernel
theorem dX9_union_108 : decode cX9_union 108 = .ok (.aload_n 0, 1) := by decide +kernel
theorem dX9_union_109 : decode cX9_union 109 = .ok (.getfield 35, 3) := by decide +kernel
theorem dX9_union_112 : decode cX9_union 112 = .ok (.iload_n 1, 1) := by decide +kernel
theorem dX9_union_113 : decode cX9_union 113 = .ok (.invokevirtual 190, 3) := by decide +kernel
theorem dX9_union_116 : decode cX9_union 116 = .ok (.ireturn, 1) := by decide +kernel
theorem dX9_union_117 : decode cX9_union 117 = .ok (.aload_n 0, 1) := by decide +kernel
theorem dX9_union_118 : decode cX9_union 118 = .ok (.getfield 44, 3) := by decide +kernel
theorem dX9_union_121 : decode cX9_union 121 = .ok (.invokevirtual 193, 3) := by decide +kernel
theorem dX9_union_124 : decode cX9_union 124 = .ok (.aload_n 0, 1) := by decide +kernel
theorem dX9_union_125 : decode cX9_union 125 = .ok (.getfield 44, 3) := by decide +kernel
theorem dX9_union_128 : decode cX9_union 128 = .ok (.iload_n 1, 1) := by decide +kernel
theorem dX9_union_129 : decode cX9_union 129 = .ok (.invokevirtual 196, 3) := by decide +kernel
theorem dX9_union_132 : decode cX9_union 132 = .ok (.ireturn, 1) := by decide +kernel
theorem dX9_union_133 : decode cX9_union 133 = .ok (.new 162, 3) := by decide +kernel
theorem dX9_union_136 : decode cX9_union 136 = .ok (.dup, 1) := by decide +kernel
theorem dX9_union_137 : decode cX9_union 137 = .ok (.ldc 199, 2) := by decide +kernel
theorem dX9_union_139 : decode cX9_union 139 = .ok (.invokespecial 166, 3) := by decide +kernel
theorem dX9_union_142 : decode cX9_union 142 = .ok (.athrow, 1) := by decide +kernel
theorem dX9_children_0 : decode cX9_children 0 = .ok (.aload_n 0, 1) := by decide +kernel
theorem dX9_children_1 : decode cX9_children 1 = .ok (.iload_n 1, 1) := by decide +kernel
theorem dX9_children_2 : decode cX9_children 2 = .ok (.invokevirtual 167, 3) := by decide +kernel
theorem dX9_children_5 : decode cX9_children 5 = .ok (.aload_n 0, 1) := by decide +kernel
theorem dX9_children_6 : decode cX9_children 6 = .ok (.getfield 19, 3) := by decide +kernel
theorem dX9_children_9 : decode cX9_children 9 = .ok (.iload_n 1, 1) := by decide +kernel
theorem dX9_children_10 : decode cX9_children 10 = .ok (.invokevirtual 182, 3) := by decide +kernel
theorem dX9_children_13 : decode cX9_children 13 = .ok (.ireturn, 1) := by decide +kernel
theorem dX9_ancestors_0 : decode cX9_ancestors 0 = .ok (.aload_n 0, 1) := by decide +kernel
theorem dX9_ancestors_1 : decode cX9_ancestors 1 = .ok (.iload_n 1, 1) := by decide +kernel
theorem dX9_ancestors_2 : decode cX9_ancestors 2 = .ok (.invokevirtual 139, 3) := by decide +kernel
theorem dX9_ancestors_5 : decode cX9_ancestors 5 = .ok (.aload_n 0, 1) := by decide +kernel
theorem dX9_ancestors_6 : decode cX9_ancestors 6 = .ok (.getfield 19, 3) := by decide +kernel
theorem dX9_ancestors_9 : decode cX9_ancestors 9 = .ok (.getfield 201, 3) := by decide +kernel
theorem dX9_ancestors_12 : decode cX9_ancestors 12 = .ok (.iload_n 1, 1) := by decide +kernel
theorem dX9_ancestors_13 : decode cX9_ancestors 13 = .ok (.invokestatic 146, 3) := by decide +kernel
theorem dX9_ancestors_16 : decode cX9_ancestors 16 = .ok (.ireturn, 1) := by decide +kernel
theorem dX9_descendants_0 : decode cX9_descendants 0 = .ok (.aload_n 0, 1) := by decide +kernel
theorem dX9_descendants_1 : decode cX9_descendants 1 = .ok (.iload_n 1, 1) := by decide +kernel
theorem dX9_descendants_2 : decode cX9_descendants 2 = .ok (.invokevirtual 139, 3) := by decide +kernel
theorem dX9_descendants_5 : decode cX9_descendants 5 = .ok (.aload_n 0, 1) := by decide +kernel
theorem dX9_descendants_6 : decode cX9_descendants 6 = .ok (.getfield 19, 3) := by decide +kernel
theorem dX9_descendants_9 : decode cX9_descendants 9 = .ok (.iload_n 1, 1) := by decide +kernel
theorem dX9_descendants_10 : decode cX9_descendants 10 = .ok (.invokevirtual 204, 3) := by decide +kernel
theorem dX9_descendants_13 : decode cX9_descendants 13 = .ok (.ireturn, 1) := by decide +kernel
theorem dX9_kinship_0 : decode cX9_kinship 0 = .ok (.aload_n 0, 1) := by decide +kernel
theorem dX9_kinship_1 : decode cX9_kinship 1 = .ok (.iload_n 1, 1) := by decide +kernel
theorem dX9_kinship_2 : decode cX9_kinship 2 = .ok (.invokevirtual 139, 3) := by decide +kernel
theorem dX9_kinship_5 : decode cX9_kinship 5 = .ok (.aload_n 0, 1) := by decide +kernel
theorem dX9_kinship_6 : decode cX9_kinship 6 = .ok (.iload_n 2, 1) := by decide +kernel
theorem dX9_kinship_7 : decode cX9_kinship 7 = .ok (.invokevirtual 139, 3) := by decide +kernel
theorem dX9_kinship_10 : decode cX9_kinship 10 = .ok (.aload_n 0, 1) := by decide +kernel
theorem dX9_kinship_11 : decode cX9_kinship 11 = .ok (.getfield 28, 3) := by decide +kernel
theorem dX9_kinship_14 : decode cX9_kinship 14 = .ok (.invokevirtual 207, 3) := by decide +kernel
theorem dX9_kinship_17 : decode cX9_kinship 17 = .ok (.aload_n 0, 1) := by decide +kernel
theorem dX9_kinship_18 : decode cX9_kinship 18 = .ok (.getfield 28, 3) := by decide +kernel
theorem dX9_kinship_21 : decode cX9_kinship 21 = .ok (.iload_n 1, 1) := by decide +kernel
theorem dX9_kinship_22 : decode cX9_kinship 22 = .ok (.iload_n 2, 1) := by decide +kernel
theorem dX9_kinship_23 : decode cX9_kinship 23 = .ok (.invokevirtual 210, 3) := by decide +kernel
theorem dX9_kinship_26 : decode cX9_kinship 26 = .ok (.lreturn, 1) := by decide +kernel
theorem dX9_distance_0 : decode cX9_distance 0 = .ok (.aload_n 0, 1) := by decide +kernel
theorem dX9_distance_1 : decode cX9_distance 1 = .ok (.iload_n 1, 1) := by decide +kernel
theorem dX9_distance_2 : decode cX9_distance 2 = .ok (.invokevirtual 139, 3) := by decide +kernel
theorem dX9_distance_5 : decode cX9_distance 5 = .ok (.aload_n 0, 1) := by decide +kernel
theorem dX9_distance_6 : decode cX9_distance 6 = .ok (.iload_n 2, 1) := by decide +kernel
theorem dX9_distance_7 : decode cX9_distance 7 = .ok (.invokevirtual 139, 3) := by decide +kernel
theorem dX9_distance_10 : decode cX9_distance 10 = .ok (.aload_n 0, 1) := by decide +kernel
theorem dX9_distance_11 : decode cX9_distance 11 = .ok (.getfield 28, 3) := by decide +kernel
theorem dX9_distance_14 : decode cX9_distance 14 = .ok (.iload_n 1, 1) := by decide +kernel
theorem dX9_distance_15 : decode cX9_distance 15 = .ok (.iload_n 2, 1) := by decide +kernel
theorem dX9_distance_16 : decode cX9_distance 16 = .ok (.invokevirtual 214, 3) := by decide +kernel
theorem dX9_distance_19 : decode cX9_distance 19 = .ok (.ireturn, 1) := by decide +kernel
theorem dX9_linesTo_0 : decode cX9_linesTo 0 = .ok (.aload_n 0, 1) := by decide +kernel
theorem dX9_linesTo_1 : decode cX9_linesTo 1 = .ok (.iload_n 1, 1) := by decide +kernel
theorem dX9_linesTo_2 : decode cX9_linesTo 2 = .ok (.invokevirtual 139, 3) := by decide +kernel
theorem dX9_linesTo_5 : decode cX9_linesTo 5 = .ok (.aload_n 0, 1) := by decide +kernel
theorem dX9_linesTo_6 : decode cX9_linesTo 6 = .ok (.iload_n 2, 1) := by decide +kernel
theorem dX9_linesTo_7 : decode cX9_linesTo 7 = .ok (.invokevirtual 139, 3) := by decide +kernel
theorem dX9_linesTo_10 : decode cX9_linesTo 10 = .ok (.aload_n 0, 1) := by decide +kernel
theorem dX9_linesTo_11 : decode cX9_linesTo 11 = .ok (.getfield 28, 3) := by decide +kernel
theorem dX9_linesTo_14 : decode cX9_linesTo 14 = .ok (.iload_n 1, 1) := by decide +kernel
theorem dX9_linesTo_15 : decode cX9_linesTo 15 = .ok (.iload_n 2, 1) := by decide +kernel
theorem dX9_linesTo_16 : decode cX9_linesTo 16 = .ok (.invokevirtual 218, 3) := by decide +kernel
theorem dX9_linesTo_19 : decode cX9_linesTo 19 = .ok (.ireturn, 1) := by decide +kernel
theorem dX9_boxes_0 : decode cX9_boxes 0 = .ok (.aload_n 0, 1) := by decide +kernel
theorem dX9_boxes_1 : decode cX9_boxes 1 = .ok (.iload_n 1, 1) := by decide +kernel
theorem dX9_boxes_2 : decode cX9_boxes 2 = .ok (.invokevirtual 229, 3) := by decide +kernel
theorem dX9_boxes_5 : decode cX9_boxes 5 = .ok (.aload_n 0, 1) := by decide +kernel
theorem dX9_boxes_6 : decode cX9_boxes 6 = .ok (.getfield 35, 3) := by decide +kernel
theorem dX9_boxes_9 : decode cX9_boxes 9 = .ok (.iload_n 1, 1) := by decide +kernel
theorem dX9_boxes_10 : decode cX9_boxes 10 = .ok (.invokevirtual 232, 3) := by decide +kernel
theorem dX9_boxes_13 : decode cX9_boxes 13 = .ok (.ireturn, 1) := by decide +kernel
theorem dX9_box_0 : decode cX9_box 0 = .ok (.aload_n 0, 1) := by decide +kernel
theorem dX9_box_1 : decode cX9_box 1 = .ok (.iload_n 1, 1) := by decide +kernel
theorem dX9_box_2 : decode cX9_box 2 = .ok (.iload_n 2, 1) := by decide +kernel
theorem dX9_box_3 : decode cX9_box 3 = .ok (.invokevirtual 235, 3) := by decide +kernel
theorem dX9_box_6 : decode cX9_box 6 = .ok (.aload_n 0, 1) := by decide +kernel
theorem dX9_box_7 : decode cX9_box 7 = .ok (.getfield 35, 3) := by decide +kernel
theorem dX9_box_10 : decode cX9_box 10 = .ok (.iload_n 1, 1) := by decide +kernel
theorem dX9_box_11 : decode cX9_box 11 = .ok (.iload_n 2, 1) := by decide +kernel
theorem dX9_box_12 : decode cX9_box 12 = .ok (.invokevirtual 239, 3) := by decide +kernel
theorem dX9_box_15 : decode cX9_box 15 = .ok (.istore 4, 2) := by decide +kernel
theorem dX9_box_17 : decode cX9_box 17 = .ok (.iload_n 3, 1) := by decide +kernel
theorem dX9_box_18 : decode cX9_box 18 = .ok (.tableswitch 76 0 3 #[30, 40, 46, 66], 30) := by decide +kernel
theorem dX9_box_48 : decode cX9_box 48 = .ok (.aload_n 0, 1) := by decide +kernel
theorem dX9_box_49 : decode cX9_box 49 = .ok (.getfield 35, 3) := by decide +kernel
theorem dX9_box_52 : decode cX9_box 52 = .ok (.iload 4, 2) := by decide +kernel
theorem dX9_box_54 : decode cX9_box 54 = .ok (.invokevirtual 242, 3) := by decide +kernel
theorem dX9_box_57 : decode cX9_box 57 = .ok (.ireturn, 1) := by decide +kernel
theorem dX9_box_58 : decode cX9_box 58 = .ok (.iload 4, 2) := by decide +kernel
theorem dX9_box_60 : decode cX9_box 60 = .ok (.invokestatic 245, 3) := by decide +kernel
theorem dX9_box_63 : decode cX9_box 63 = .ok (.ireturn, 1) := by decide +kernel
theorem dX9_box_64 : decode cX9_box 64 = .ok (.aload_n 0, 1) := by decide +kernel
theorem dX9_box_65 : decode cX9_box 65 = .ok (.getfield 44, 3) := by decide +kernel
theorem dX9_box_68 : decode cX9_box 68 = .ok (.invokevirtual 193, 3) := by decide +kernel
theorem dX9_box_71 : decode cX9_box 71 = .ok (.aload_n 0, 1) := by decide +kernel
theorem dX9_box_72 : decode cX9_box 72 = .ok (.getfield 44, 3) := by decide +kernel
theorem dX9_box_75 : decode cX9_box 75 = .ok (.getfield 248, 3) := by decide +kernel
theorem dX9_box_78 : decode cX9_box 78 = .ok (.iload 4, 2) := by decide +kernel
theorem dX9_box_80 : decode cX9_box 80 = .ok (.invokestatic 146, 3) := by decide +kernel
theorem dX9_box_83 : decode cX9_box 83 = .ok (.ireturn, 1) := by decide +kernel
theorem dX9_box_84 : decode cX9_box 84 = .ok (.aload_n 0, 1) := by decide +kernel
theorem dX9_box_85 : decode cX9_box 85 = .ok (.getfield 44, 3) := by decide +kernel
theorem dX9_box_88 : decode cX9_box 88 = .ok (.iload 4, 2) := by decide +kernel
theorem dX9_box_90 : decode cX9_box 90 = .ok (.invokevirtual 251, 3) := by decide +kernel
theorem dX9_box_93 : decode cX9_box 93 = .ok (.ireturn, 1) := by decide +kernel
theorem dX9_box_94 : decode cX9_box 94 = .ok (.new 162, 3) := by decide +kernel
theorem dX9_box_97 : decode cX9_box 97 = .ok (.dup, 1) := by decide +kernel
theorem dX9_box_98 : decode cX9_box 98 = .ok (.ldc 254, 2) := by decide +kernel
theorem dX9_box_100 : decode cX9_box 100 = .ok (.invokespecial 166, 3) := by decide +kernel
theorem dX9_box_103 : decode cX9_box 103 = .ok (.athrow, 1) := by decide +kernel
theorem dX9_place_0 : decode cX9_place 0 = .ok (.aload_n 0, 1) := by decide +kernel
theorem dX9_place_1 : decode cX9_place 1 = .ok (.iload_n 1, 1) := by decide +kernel
theorem dX9_place_2 : decode cX9_place 2 = .ok (.invokevirtual 139, 3) := by decide +kernel
theorem dX9_place_5 : decode cX9_place 5 = .ok (.aload_n 0, 1) := by decide +kernel
theorem dX9_place_6 : decode cX9_place 6 = .ok (.getfield 35, 3) := by decide +kernel
theorem dX9_place_9 : decode cX9_place 9 = .ok (.getfield 256, 3) := by decide +kernel
theorem dX9_place_12 : decode cX9_place 12 = .ok (.iload_n 1, 1) := by decide +kernel
theorem dX9_place_13 : decode cX9_place 13 = .ok (.invokestatic 146, 3) := by decide +kernel
theorem dX9_place_16 : decode cX9_place 16 = .ok (.ireturn, 1) := by decide +kernel
theorem dX9_crossings_0 : decode cX9_crossings 0 = .ok (.aload_n 0, 1) := by decide +kernel
theorem dX9_crossings_1 : decode cX9_crossings 1 = .ok (.getfield 35, 3) := by decide +kernel
theorem dX9_crossings_4 : decode cX9_crossings 4 = .ok (.invokevirtual 259, 3) := by decide +kernel
theorem dX9_crossings_7 : decode cX9_crossings 7 = .ok (.ireturn, 1) := by decide +kernel
theorem dX9_crossingsOf_0 : decode cX9_crossingsOf 0 = .ok (.aload_n 0, 1) := by decide +kernel
theorem dX9_crossingsOf_1 : decode cX9_crossingsOf 1 = .ok (.iload_n 1, 1) := by decide +kernel
theorem dX9_crossingsOf_2 : decode cX9_crossingsOf 2 = .ok (.invokevirtual 229, 3) := by decide +kernel
theorem dX9_crossingsOf_5 : decode cX9_crossingsOf 5 = .ok (.iload_n 2, 1) := by decide +kernel
theorem dX9_crossingsOf_6 : decode cX9_crossingsOf 6 = .ok (.ifCond .eq 14, 3) := by decide +kernel
theorem dX9_crossingsOf_9 : decode cX9_crossingsOf 9 = .ok (.aload_n 0, 1) := by decide +kernel
theorem dX9_crossingsOf_10 : decode cX9_crossingsOf 10 = .ok (.getfield 35, 3) := by decide +kernel
theorem dX9_crossingsOf_13 : decode cX9_crossingsOf 13 = .ok (.iload_n 1, 1) := by decide +kernel
theorem dX9_crossingsOf_14 : decode cX9_crossingsOf 14 = .ok (.invokevirtual 262, 3) := by decide +kernel
theorem dX9_crossingsOf_17 : decode cX9_crossingsOf 17 = .ok (.goto 11, 3) := by decide +kernel
theorem dX9_crossingsOf_20 : decode cX9_crossingsOf 20 = .ok (.aload_n 0, 1) := by decide +kernel
theorem dX9_crossingsOf_21 : decode cX9_crossingsOf 21 = .ok (.getfield 35, 3) := by decide +kernel
theorem dX9_crossingsOf_24 : decode cX9_crossingsOf 24 = .ok (.iload_n 1, 1) := by decide +kernel
theorem dX9_crossingsOf_25 : decode cX9_crossingsOf 25 = .ok (.invokevirtual 265, 3) := by decide +kernel
theorem dX9_crossingsOf_28 : decode cX9_crossingsOf 28 = .ok (.ireturn, 1) := by decide +kernel
theorem dX9_crossingsIf_0 : decode cX9_crossingsIf 0 = .ok (.aload_n 0, 1) := by decide +kernel
theorem dX9_crossingsIf_1 : decode cX9_crossingsIf 1 = .ok (.iload_n 1, 1) := by decide +kernel
theorem dX9_crossingsIf_2 : decode cX9_crossingsIf 2 = .ok (.iload_n 2, 1) := by decide +kernel
theorem dX9_crossingsIf_3 : decode cX9_crossingsIf 3 = .ok (.invokevirtual 235, 3) := by decide +kernel
theorem dX9_crossingsIf_6 : decode cX9_crossingsIf 6 = .ok (.aload_n 0, 1) := by decide +kernel
theorem dX9_crossingsIf_7 : decode cX9_crossingsIf 7 = .ok (.iload_n 1, 1) := by decide +kernel
theorem dX9_crossingsIf_8 : decode cX9_crossingsIf 8 = .ok (.iload_n 3, 1) := by decide +kernel
theorem dX9_crossingsIf_9 : decode cX9_crossingsIf 9 = .ok (.invokevirtual 235, 3) := by decide +kernel
theorem dX9_crossingsIf_12 : decode cX9_crossingsIf 12 = .ok (.aload_n 0, 1) := by decide +kernel
theorem dX9_crossingsIf_13 : decode cX9_crossingsIf 13 = .ok (.getfield 35, 3) := by decide +kernel
theorem dX9_crossingsIf_16 : decode cX9_crossingsIf 16 = .ok (.iload_n 1, 1) := by decide +kernel
theorem dX9_crossingsIf_17 : decode cX9_crossingsIf 17 = .ok (.iload_n 2, 1) := by decide +kernel
theorem dX9_crossingsIf_18 : decode cX9_crossingsIf 18 = .ok (.iload_n 3, 1) := by decide +kernel
theorem dX9_crossingsIf_19 : decode cX9_crossingsIf 19 = .ok (.invokevirtual 268, 3) := by decide +kernel
theorem dX9_crossingsIf_22 : decode cX9_crossingsIf 22 = .ok (.aload_n 0, 1) := by decide +kernel
theorem dX9_crossingsIf_23 : decode cX9_crossingsIf 23 = .ok (.getfield 35, 3) := by decide +kernel
theorem dX9_crossingsIf_26 : decode cX9_crossingsIf 26 = .ok (.invokevirtual 259, 3) := by decide +kernel
theorem dX9_crossingsIf_29 : decode cX9_crossingsIf 29 = .ok (.istore 4, 2) := by decide +kernel
theorem dX9_crossingsIf_31 : decode cX9_crossingsIf 31 = .ok (.aload_n 0, 1) := by decide +kernel
theorem dX9_crossingsIf_32 : decode cX9_crossingsIf 32 = .ok (.getfield 35, 3) := by decide +kernel
theorem dX9_crossingsIf_35 : decode cX9_crossingsIf 35 = .ok (.iload_n 1, 1) := by decide +kernel
theorem dX9_crossingsIf_36 : decode cX9_crossingsIf 36 = .ok (.iload_n 2, 1) := by decide +kernel
theorem dX9_crossingsIf_37 : decode cX9_crossingsIf 37 = .ok (.iload_n 3, 1) := by decide +kernel
theorem dX9_crossingsIf_38 : decode cX9_crossingsIf 38 = .ok (.invokevirtual 268, 3) := by decide +kernel
theorem dX9_crossingsIf_41 : decode cX9_crossingsIf 41 = .ok (.iload 4, 2) := by decide +kernel
theorem dX9_crossingsIf_43 : decode cX9_crossingsIf 43 = .ok (.ireturn, 1) := by decide +kernel
theorem dX9_width_0 : decode cX9_width 0 = .ok (.aload_n 0, 1) := by decide +kernel
theorem dX9_width_1 : decode cX9_width 1 = .ok (.getfield 44, 3) := by decide +kernel
theorem dX9_width_4 : decode cX9_width 4 = .ok (.invokevirtual 193, 3) := by decide +kernel
theorem dX9_width_7 : decode cX9_width 7 = .ok (.aload_n 0, 1) := by decide +kernel
theorem dX9_width_8 : decode cX9_width 8 = .ok (.getfield 53, 3) := by decide +kernel
theorem dX9_width_11 : decode cX9_width 11 = .ok (.invokevirtual 272, 3) := by decide +kernel
theorem dX9_width_14 : decode cX9_width 14 = .ok (.ireturn, 1) := by decide +kernel
theorem dX9_format_0 : decode cX9_format 0 = .ok (.iload_n 1, 1) := by decide +kernel
theorem dX9_format_1 : decode cX9_format 1 = .ok (.ifCond .lt 20, 3) := by decide +kernel
theorem dX9_format_4 : decode cX9_format 4 = .ok (.iload_n 1, 1) := by decide +kernel
theorem dX9_format_5 : decode cX9_format 5 = .ok (.iconst 3, 1) := by decide +kernel
theorem dX9_format_6 : decode cX9_format 6 = .ok (.aload_n 0, 1) := by decide +kernel
theorem dX9_format_7 : decode cX9_format 7 = .ok (.getfield 19, 3) := by decide +kernel
theorem dX9_format_10 : decode cX9_format 10 = .ok (.getfield 126, 3) := by decide +kernel
theorem dX9_format_13 : decode cX9_format 13 = .ok (.imul, 1) := by decide +kernel
theorem dX9_format_14 : decode cX9_format 14 = .ok (.if_icmp .ge 7, 3) := by decide +kernel
theorem dX9_format_17 : decode cX9_format 17 = .ok (.iload_n 2, 1) := by decide +kernel
theorem dX9_format_18 : decode cX9_format 18 = .ok (.ifCond .ge 14, 3) := by decide +kernel
theorem dX9_format_21 : decode cX9_format 21 = .ok (.new 162, 3) := by decide +kernel
theorem dX9_format_24 : decode cX9_format 24 = .ok (.dup, 1) := by decide +kernel
theorem dX9_format_25 : decode cX9_format 25 = .ok (.ldc_w 275, 3) := by decide +kernel
theorem dX9_format_28 : decode cX9_format 28 = .ok (.invokespecial 166, 3) := by decide +kernel
theorem dX9_format_31 : decode cX9_format 31 = .ok (.athrow, 1) := by decide +kernel
theorem dX9_format_32 : decode cX9_format 32 = .ok (.iload_n 3, 1) := by decide +kernel
theorem dX9_format_33 : decode cX9_format 33 = .ok (.invokestatic 277, 3) := by decide +kernel
theorem dX9_format_36 : decode cX9_format 36 = .ok (.aload_n 0, 1) := by decide +kernel
theorem dX9_format_37 : decode cX9_format 37 = .ok (.getfield 44, 3) := by decide +kernel
theorem dX9_format_40 : decode cX9_format 40 = .ok (.invokevirtual 193, 3) := by decide +kernel
theorem dX9_format_43 : decode cX9_format 43 = .ok (.aload_n 0, 1) := by decide +kernel
theorem dX9_format_44 : decode cX9_format 44 = .ok (.getfield 53, 3) := by decide +kernel
theorem dX9_format_47 : decode cX9_format 47 = .ok (.iload_n 1, 1) := by decide +kernel
theorem dX9_format_48 : decode cX9_format 48 = .ok (.invokevirtual 280, 3) := by decide +kernel
theorem dX9_format_51 : decode cX9_format 51 = .ok (.aload_n 0, 1) := by decide +kernel
theorem dX9_format_52 : decode cX9_format 52 = .ok (.getfield 53, 3) := by decide +kernel
theorem dX9_format_55 : decode cX9_format 55 = .ok (.iload_n 2, 1) := by decide +kernel
theorem dX9_format_56 : decode cX9_format 56 = .ok (.i2l, 1) := by decide +kernel
theorem dX9_format_57 : decode cX9_format 57 = .ok (.iload_n 3, 1) := by decide +kernel
theorem dX9_format_58 : decode cX9_format 58 = .ok (.i2l, 1) := by decide +kernel
theorem dX9_format_59 : decode cX9_format 59 = .ok (.lmul, 1) := by decide +kernel
theorem dX9_format_60 : decode cX9_format 60 = .ok (.iload_n 3, 1) := by decide +kernel
theorem dX9_format_61 : decode cX9_format 61 = .ok (.invokevirtual 283, 3) := by decide +kernel
theorem dX9_format_64 : decode cX9_format 64 = .ok (.aload_n 0, 1) := by decide +kernel
theorem dX9_format_65 : decode cX9_format 65 = .ok (.getfield 53, 3) := by decide +kernel
theorem dX9_format_68 : decode cX9_format 68 = .ok (.getfield 287, 3) := by decide +kernel
theorem dX9_format_71 : decode cX9_format 71 = .ok (.ireturn, 1) := by decide +kernel
theorem dX9_formattedByte_0 : decode cX9_formattedByte 0 = .ok (.iload_n 1, 1) := by decide +kernel
theorem dX9_formattedByte_1 : decode cX9_formattedByte 1 = .ok (.ifCond .lt 14, 3) := by decide +kernel
theorem dX9_formattedByte_4 : decode cX9_formattedByte 4 = .ok (.iload_n 1, 1) := by decide +kernel
theorem dX9_formattedByte_5 : decode cX9_formattedByte 5 = .ok (.aload_n 0, 1) := by decide +kernel
theorem dX9_formattedByte_6 : decode cX9_formattedByte 6 = .ok (.getfield 53, 3) := by decide +kernel
theorem dX9_formattedByte_9 : decode cX9_formattedByte 9 = .ok (.getfield 287, 3) := by decide +kernel
theorem dX9_formattedByte_12 : decode cX9_formattedByte 12 = .ok (.if_icmp .lt 7, 3) := by decide +kernel
theorem dX9_formattedByte_15 : decode cX9_formattedByte 15 = .ok (.iconst (-1), 1) := by decide +kernel
theorem dX9_formattedByte_16 : decode cX9_formattedByte 16 = .ok (.goto 14, 3) := by decide +kernel
theorem dX9_formattedByte_19 : decode cX9_formattedByte 19 = .ok (.aload_n 0, 1) := by decide +kernel
theorem dX9_formattedByte_20 : decode cX9_formattedByte 20 = .ok (.getfield 53, 3) := by decide +kernel
theorem dX9_formattedByte_23 : decode cX9_formattedByte 23 = .ok (.getfield 290, 3) := by decide +kernel
theorem dX9_formattedByte_26 : decode cX9_formattedByte 26 = .ok (.iload_n 1, 1) := by decide +kernel
theorem dX9_formattedByte_27 : decode cX9_formattedByte 27 = .ok (.invokestatic 146, 3) := by decide +kernel
theorem dX9_formattedByte_30 : decode cX9_formattedByte 30 = .ok (.ireturn, 1) := by decide +kernel
theorem dX9_strips_0 : decode cX9_strips 0 = .ok (.iload_n 1, 1) := by decide +kernel
theorem dX9_strips_1 : decode cX9_strips 1 = .ok (.invokestatic 277, 3) := by decide +kernel
theorem dX9_strips_4 : decode cX9_strips 4 = .ok (.aload_n 0, 1) := by decide +kernel
theorem dX9_strips_5 : decode cX9_strips 5 = .ok (.getfield 44, 3) := by decide +kernel
theorem dX9_strips_8 : decode cX9_strips 8 = .ok (.invokevirtual 193, 3) := by decide +kernel
theorem dX9_strips_11 : decode cX9_strips 11 = .ok (.aload_n 0, 1) := by decide +kernel
theorem dX9_strips_12 : decode cX9_strips 12 = .ok (.getfield 53, 3) := by decide +kernel
theorem dX9_strips_15 : decode cX9_strips 15 = .ok (.invokevirtual 272, 3) := by decide +kernel
theorem dX9_strips_18 : decode cX9_strips 18 = .ok (.iload_n 1, 1) := by decide +kernel
theorem dX9_strips_19 : decode cX9_strips 19 = .ok (.iadd, 1) := by decide +kernel
theorem dX9_strips_20 : decode cX9_strips 20 = .ok (.iconst 1, 1) := by decide +kernel
theorem dX9_strips_21 : decode cX9_strips 21 = .ok (.isub, 1) := by decide +kernel
theorem dX9_strips_22 : decode cX9_strips 22 = .ok (.iload_n 1, 1) := by decide +kernel
theorem dX9_strips_23 : decode cX9_strips 23 = .ok (.idiv, 1) := by decide +kernel
theorem dX9_strips_24 : decode cX9_strips 24 = .ok (.ireturn, 1) := by decide +kernel
theorem dX9_cutBoxes_0 : decode cX9_cutBoxes 0 = .ok (.iload_n 1, 1) := by decide +kernel
theorem dX9_cutBoxes_1 : decode cX9_cutBoxes 1 = .ok (.invokestatic 277, 3) := by decide +kernel
theorem dX9_cutBoxes_4 : decode cX9_cutBoxes 4 = .ok (.aload_n 0, 1) := by decide +kernel
theorem dX9_cutBoxes_5 : decode cX9_cutBoxes 5 = .ok (.getfield 44, 3) := by decide +kernel
theorem dX9_cutBoxes_8 : decode cX9_cutBoxes 8 = .ok (.invokevirtual 193, 3) := by decide +kernel
theorem dX9_cutBoxes_11 : decode cX9_cutBoxes 11 = .ok (.aload_n 0, 1) := by decide +kernel
theorem dX9_cutBoxes_12 : decode cX9_cutBoxes 12 = .ok (.getfield 44, 3) := by decide +kernel
theorem dX9_cutBoxes_15 : decode cX9_cutBoxes 15 = .ok (.iload_n 1, 1) := by decide +kernel
theorem dX9_cutBoxes_16 : decode cX9_cutBoxes 16 = .ok (.invokevirtual 293, 3) := by decide +kernel
theorem dX9_cutBoxes_19 : decode cX9_cutBoxes 19 = .ok (.ireturn, 1) := by decide +kernel
theorem dX9_marry_0 : decode cX9_marry 0 = .ok (.aload_n 0, 1) := by decide +kernel
theorem dX9_marry_1 : decode cX9_marry 1 = .ok (.iload_n 1, 1) := by decide +kernel
theorem dX9_marry_2 : decode cX9_marry 2 = .ok (.invokevirtual 139, 3) := by decide +kernel
theorem dX9_marry_5 : decode cX9_marry 5 = .ok (.aload_n 0, 1) := by decide +kernel
theorem dX9_marry_6 : decode cX9_marry 6 = .ok (.iload_n 2, 1) := by decide +kernel
theorem dX9_marry_7 : decode cX9_marry 7 = .ok (.invokevirtual 139, 3) := by decide +kernel
theorem dX9_marry_10 : decode cX9_marry 10 = .ok (.iload_n 3, 1) := by decide +kernel
theorem dX9_marry_11 : decode cX9_marry 11 = .ok (.ifCond .lt 10, 3) := by decide +kernel
theorem dX9_marry_14 : decode cX9_marry 14 = .ok (.iload_n 3, 1) := by decide +kernel
theorem dX9_marry_15 : decode cX9_marry 15 = .ok (.sipush 2100, 3) := by decide +kernel
theorem dX9_marry_18 : decode cX9_marry 18 = .ok (.if_icmp .le 14, 3) := by decide +kernel
theorem dX9_marry_21 : decode cX9_marry 21 = .ok (.new 94, 3) := by decide +kernel
theorem dX9_marry_24 : decode cX9_marry 24 = .ok (.dup, 1) := by decide +kernel
theorem dX9_marry_25 : decode cX9_marry 25 = .ok (.ldc_w 302, 3) := by decide +kernel
theorem dX9_marry_28 : decode cX9_marry 28 = .ok (.invokespecial 98, 3) := by decide +kernel
theorem dX9_marry_31 : decode cX9_marry 31 = .ok (.athrow, 1) := by decide +kernel
theorem dX9_marry_32 : decode cX9_marry 32 = .ok (.iload_n 1, 1) := by decide +kernel
theorem dX9_marry_33 : decode cX9_marry 33 = .ok (.iload_n 2, 1) := by decide +kernel
theorem dX9_marry_34 : decode cX9_marry 34 = .ok (.if_icmp .eq 16, 3) := by decide +kernel
theorem dX9_marry_37 : decode cX9_marry 37 = .ok (.aload_n 0, 1) := by decide +kernel
theorem dX9_marry_38 : decode cX9_marry 38 = .ok (.getfield 19, 3) := by decide +kernel
theorem dX9_marry_41 : decode cX9_marry 41 = .ok (.iload_n 1, 1) := by decide +kernel
theorem dX9_marry_42 : decode cX9_marry 42 = .ok (.iload_n 2, 1) := by decide +kernel
theorem dX9_marry_43 : decode cX9_marry 43 = .ok (.invokevirtual 304, 3) := by decide +kernel
theorem dX9_marry_46 : decode cX9_marry 46 = .ok (.iconst (-1), 1) := by decide +kernel
theorem dX9_marry_47 : decode cX9_marry 47 = .ok (.if_icmp .eq 6, 3) := by decide +kernel
theorem dX9_marry_50 : decode cX9_marry 50 = .ok (.bipush (-2), 2) := by decide +kernel
theorem dX9_marry_52 : decode cX9_marry 52 = .ok (.ireturn, 1) := by decide +kernel
theorem dX9_marry_53 : decode cX9_marry 53 = .ok (.aload_n 0, 1) := by decide +kernel
theorem dX9_marry_54 : decode cX9_marry 54 = .ok (.getfield 19, 3) := by decide +kernel
theorem dX9_marry_57 : decode cX9_marry 57 = .ok (.getfield 123, 3) := by decide +kernel
theorem dX9_marry_60 : decode cX9_marry 60 = .ok (.bipush 12, 2) := by decide +kernel
theorem dX9_marry_62 : decode cX9_marry 62 = .ok (.if_icmp .lt 6, 3) := by decide +kernel
theorem dX9_marry_65 : decode cX9_marry 65 = .ok (.bipush (-3), 2) := by decide +kernel
theorem dX9_marry_67 : decode cX9_marry 67 = .ok (.ireturn, 1) := by decide +kernel
theorem dX9_marry_68 : decode cX9_marry 68 = .ok (.aload_n 0, 1) := by decide +kernel
theorem dX9_marry_69 : decode cX9_marry 69 = .ok (.getfield 60, 3) := by decide +kernel
theorem dX9_marry_72 : decode cX9_marry 72 = .ok (.invokevirtual 307, 3) := by decide +kernel
theorem dX9_marry_75 : decode cX9_marry 75 = .ok (.aload_n 0, 1) := by decide +kernel
theorem dX9_marry_76 : decode cX9_marry 76 = .ok (.getfield 19, 3) := by decide +kernel
theorem dX9_marry_79 : decode cX9_marry 79 = .ok (.iload_n 1, 1) := by decide +kernel
theorem dX9_marry_80 : decode cX9_marry 80 = .ok (.iload_n 2, 1) := by decide +kernel
theorem dX9_marry_81 : decode cX9_marry 81 = .ok (.iload_n 3, 1) := by decide +kernel
theorem dX9_marry_82 : decode cX9_marry 82 = .ok (.invokevirtual 310, 3) := by decide +kernel
theorem dX9_marry_85 : decode cX9_marry 85 = .ok (.istore 4, 2) := by decide +kernel
theorem dX9_marry_87 : decode cX9_marry 87 = .ok (.aload_n 0, 1) := by decide +kernel
theorem dX9_marry_88 : decode cX9_marry 88 = .ok (.invokevirtual 314, 3) := by decide +kernel
theorem dX9_marry_91 : decode cX9_marry 91 = .ok (.iload 4, 2) := by decide +kernel
theorem dX9_marry_93 : decode cX9_marry 93 = .ok (.ireturn, 1) := by decide +kernel
theorem dX9_adopt_0 : decode cX9_adopt 0 = .ok (.aload_n 0, 1) := by decide +kernel
theorem dX9_adopt_1 : decode cX9_adopt 1 = .ok (.iload_n 1, 1) := by decide +kernel
theorem dX9_adopt_2 : decode cX9_adopt 2 = .ok (.invokevirtual 167, 3) := by decide +kernel
theorem dX9_adopt_5 : decode cX9_adopt 5 = .ok (.aload_n 0, 1) := by decide +kernel
theorem dX9_adopt_6 : decode cX9_adopt 6 = .ok (.iload_n 2, 1) := by decide +kernel
theorem dX9_adopt_7 : decode cX9_adopt 7 = .ok (.invokevirtual 139, 3) := by decide +kernel
theorem dX9_adopt_10 : decode cX9_adopt 10 = .ok (.aload_n 0, 1) := by decide +kernel
theorem dX9_adopt_11 : decode cX9_adopt 11 = .ok (.getfield 19, 3) := by decide +kernel
theorem dX9_adopt_14 : decode cX9_adopt 14 = .ok (.iload_n 2, 1) := by decide +kernel
theorem dX9_adopt_15 : decode cX9_adopt 15 = .ok (.invokevirtual 317, 3) := by decide +kernel
theorem dX9_adopt_18 : decode cX9_adopt 18 = .ok (.ifCond .eq 6, 3) := by decide +kernel
theorem dX9_adopt_21 : decode cX9_adopt 21 = .ok (.bipush (-2), 2) := by decide +kernel
theorem dX9_adopt_23 : decode cX9_adopt 23 = .ok (.ireturn, 1) := by decide +kernel
theorem dX9_adopt_24 : decode cX9_adopt 24 = .ok (.aload_n 0, 1) := by decide +kernel
theorem dX9_adopt_25 : decode cX9_adopt 25 = .ok (.getfield 19, 3) := by decide +kernel
theorem dX9_adopt_28 : decode cX9_adopt 28 = .ok (.iload_n 1, 1) := by decide +kernel
theorem dX9_adopt_29 : decode cX9_adopt 29 = .ok (.iload_n 2, 1) := by decide +kernel
theorem dX9_adopt_30 : decode cX9_adopt 30 = .ok (.invokevirtual 321, 3) := by decide +kernel
theorem dX9_adopt_33 : decode cX9_adopt 33 = .ok (.ifCond .eq 6, 3) := by decide +kernel
theorem dX9_adopt_36 : decode cX9_adopt 36 = .ok (.bipush (-3), 2) := by decide +kernel
theorem dX9_adopt_38 : decode cX9_adopt 38 = .ok (.ireturn, 1) := by decide +kernel
theorem dX9_adopt_39 : decode cX9_adopt 39 = .ok (.aload_n 0, 1) := by decide +kernel
theorem dX9_adopt_40 : decode cX9_adopt 40 = .ok (.getfield 60, 3) := by decide +kernel
theorem dX9_adopt_43 : decode cX9_adopt 43 = .ok (.invokevirtual 307, 3) := by decide +kernel
theorem dX9_adopt_46 : decode cX9_adopt 46 = .ok (.aload_n 0, 1) := by decide +kernel
theorem dX9_adopt_47 : decode cX9_adopt 47 = .ok (.getfield 19, 3) := by decide +kernel
theorem dX9_adopt_50 : decode cX9_adopt 50 = .ok (.getfield 153, 3) := by decide +kernel
theorem dX9_adopt_53 : decode cX9_adopt 53 = .ok (.iload_n 2, 1) := by decide +kernel
theorem dX9_adopt_54 : decode cX9_adopt 54 = .ok (.iload_n 1, 1) := by decide +kernel
theorem dX9_adopt_55 : decode cX9_adopt 55 = .ok (.invokestatic 325, 3) := by decide +kernel
theorem dX9_adopt_58 : decode cX9_adopt 58 = .ok (.aload_n 0, 1) := by decide +kernel
theorem dX9_adopt_59 : decode cX9_adopt 59 = .ok (.invokevirtual 314, 3) := by decide +kernel
theorem dX9_adopt_62 : decode cX9_adopt 62 = .ok (.aload_n 0, 1) := by decide +kernel
theorem dX9_adopt_63 : decode cX9_adopt 63 = .ok (.getfield 19, 3) := by decide +kernel
theorem dX9_adopt_66 : decode cX9_adopt 66 = .ok (.getfield 150, 3) := by decide +kernel
theorem dX9_adopt_69 : decode cX9_adopt 69 = .ok (.iload_n 2, 1) := by decide +kernel
theorem dX9_adopt_70 : decode cX9_adopt 70 = .ok (.invokestatic 146, 3) := by decide +kernel
theorem dX9_adopt_73 : decode cX9_adopt 73 = .ok (.ireturn, 1) := by decide +kernel
theorem dX9_release_0 : decode cX9_release 0 = .ok (.aload_n 0, 1) := by decide +kernel
theorem dX9_release_1 : decode cX9_release 1 = .ok (.iload_n 1, 1) := by decide +kernel
theorem dX9_release_2 : decode cX9_release 2 = .ok (.invokevirtual 139, 3) := by decide +kernel
theorem dX9_release_5 : decode cX9_release 5 = .ok (.aload_n 0, 1) := by decide +kernel
theorem dX9_release_6 : decode cX9_release 6 = .ok (.getfield 19, 3) := by decide +kernel
theorem dX9_release_9 : decode cX9_release 9 = .ok (.getfield 153, 3) := by decide +kernel
theorem dX9_release_12 : decode cX9_release 12 = .ok (.iload_n 1, 1) := by decide +kernel
theorem dX9_release_13 : decode cX9_release 13 = .ok (.invokestatic 146, 3) := by decide +kernel
theorem dX9_release_16 : decode cX9_release 16 = .ok (.istore_n 2, 1) := by decide +kernel
theorem dX9_release_17 : decode cX9_release 17 = .ok (.iload_n 2, 1) := by decide +kernel
theorem dX9_release_18 : decode cX9_release 18 = .ok (.iconst (-1), 1) := by decide +kernel
theorem dX9_release_19 : decode cX9_release 19 = .ok (.if_icmp .ne 6, 3) := by decide +kernel
theorem dX9_release_22 : decode cX9_release 22 = .ok (.bipush (-2), 2) := by decide +kernel
theorem dX9_release_24 : decode cX9_release 24 = .ok (.ireturn, 1) := by decide +kernel
theorem dX9_release_25 : decode cX9_release 25 = .ok (.aload_n 0, 1) := by decide +kernel
theorem dX9_release_26 : decode cX9_release 26 = .ok (.getfield 60, 3) := by decide +kernel
theorem dX9_release_29 : decode cX9_release 29 = .ok (.invokevirtual 307, 3) := by decide +kernel
theorem dX9_release_32 : decode cX9_release 32 = .ok (.aload_n 0, 1) := by decide +kernel
theorem dX9_release_33 : decode cX9_release 33 = .ok (.getfield 19, 3) := by decide +kernel
theorem dX9_release_36 : decode cX9_release 36 = .ok (.getfield 153, 3) := by decide +kernel
theorem dX9_release_39 : decode cX9_release 39 = .ok (.iload_n 1, 1) := by decide +kernel
theorem dX9_release_40 : decode cX9_release 40 = .ok (.iconst (-1), 1) := by decide +kernel
theorem dX9_release_41 : decode cX9_release 41 = .ok (.invokestatic 325, 3) := by decide +kernel
theorem dX9_release_44 : decode cX9_release 44 = .ok (.aload_n 0, 1) := by decide +kernel
theorem dX9_release_45 : decode cX9_release 45 = .ok (.invokevirtual 314, 3) := by decide +kernel
theorem dX9_release_48 : decode cX9_release 48 = .ok (.iload_n 2, 1) := by decide +kernel
theorem dX9_release_49 : decode cX9_release 49 = .ok (.ireturn, 1) := by decide +kernel
theorem dX9_swap_0 : decode cX9_swap 0 = .ok (.aload_n 0, 1) := by decide +kernel
theorem dX9_swap_1 : decode cX9_swap 1 = .ok (.iload_n 1, 1) := by decide +kernel
theorem dX9_swap_2 : decode cX9_swap 2 = .ok (.iload_n 2, 1) := by decide +kernel
theorem dX9_swap_3 : decode cX9_swap 3 = .ok (.invokevirtual 235, 3) := by decide +kernel
theorem dX9_swap_6 : decode cX9_swap 6 = .ok (.aload_n 0, 1) := by decide +kernel
theorem dX9_swap_7 : decode cX9_swap 7 = .ok (.iload_n 1, 1) := by decide +kernel
theorem dX9_swap_8 : decode cX9_swap 8 = .ok (.iload_n 3, 1) := by decide +kernel
theorem dX9_swap_9 : decode cX9_swap 9 = .ok (.invokevirtual 235, 3) := by decide +kernel
theorem dX9_swap_12 : decode cX9_swap 12 = .ok (.aload_n 0, 1) := by decide +kernel
theorem dX9_swap_13 : decode cX9_swap 13 = .ok (.getfield 60, 3) := by decide +kernel
theorem dX9_swap_16 : decode cX9_swap 16 = .ok (.invokevirtual 307, 3) := by decide +kernel
theorem dX9_swap_19 : decode cX9_swap 19 = .ok (.aload_n 0, 1) := by decide +kernel
theorem dX9_swap_20 : decode cX9_swap 20 = .ok (.getfield 35, 3) := by decide +kernel
theorem dX9_swap_23 : decode cX9_swap 23 = .ok (.iload_n 1, 1) := by decide +kernel
theorem dX9_swap_24 : decode cX9_swap 24 = .ok (.iload_n 2, 1) := by decide +kernel
theorem dX9_swap_25 : decode cX9_swap 25 = .ok (.iload_n 3, 1) := by decide +kernel
theorem dX9_swap_26 : decode cX9_swap 26 = .ok (.invokevirtual 268, 3) := by decide +kernel
theorem dX9_swap_29 : decode cX9_swap 29 = .ok (.aload_n 0, 1) := by decide +kernel
theorem dX9_swap_30 : decode cX9_swap 30 = .ok (.getfield 35, 3) := by decide +kernel
theorem dX9_swap_33 : decode cX9_swap 33 = .ok (.invokevirtual 259, 3) := by decide +kernel
theorem dX9_swap_36 : decode cX9_swap 36 = .ok (.ireturn, 1) := by decide +kernel
theorem dX9_improve_0 : decode cX9_improve 0 = .ok (.iload_n 1, 1) := by decide +kernel
theorem dX9_improve_1 : decode cX9_improve 1 = .ok (.ifCond .lt 8, 3) := by decide +kernel
theorem dX9_improve_4 : decode cX9_improve 4 = .ok (.iload_n 1, 1) := by decide +kernel
theorem dX9_improve_5 : decode cX9_improve 5 = .ok (.iconst 5, 1) := by decide +kernel
theorem dX9_improve_6 : decode cX9_improve 6 = .ok (.if_icmp .le 14, 3) := by decide +kernel
theorem dX9_improve_9 : decode cX9_improve 9 = .ok (.new 94, 3) := by decide +kernel
theorem dX9_improve_12 : decode cX9_improve 12 = .ok (.dup, 1) := by decide +kernel
theorem dX9_improve_13 : decode cX9_improve 13 = .ok (.ldc_w 329, 3) := by decide +kernel
theorem dX9_improve_16 : decode cX9_improve 16 = .ok (.invokespecial 98, 3) := by decide +kernel
theorem dX9_improve_19 : decode cX9_improve 19 = .ok (.athrow, 1) := by decide +kernel
theorem dX9_improve_20 : decode cX9_improve 20 = .ok (.aload_n 0, 1) := by decide +kernel
theorem dX9_improve_21 : decode cX9_improve 21 = .ok (.getfield 60, 3) := by decide +kernel
theorem dX9_improve_24 : decode cX9_improve 24 = .ok (.invokevirtual 307, 3) := by decide +kernel
theorem dX9_improve_27 : decode cX9_improve 27 = .ok (.iconst 0, 1) := by decide +kernel
theorem dX9_improve_28 : decode cX9_improve 28 = .ok (.istore_n 2, 1) := by decide +kernel
theorem dX9_improve_29 : decode cX9_improve 29 = .ok (.iconst 0, 1) := by decide +kernel
theorem dX9_improve_30 : decode cX9_improve 30 = .ok (.istore_n 3, 1) := by decide +kernel
theorem dX9_improve_31 : decode cX9_improve 31 = .ok (.iload_n 3, 1) := by decide +kernel
theorem dX9_improve_32 : decode cX9_improve 32 = .ok (.iload_n 1, 1) := by decide +kernel
theorem dX9_improve_33 : decode cX9_improve 33 = .ok (.if_icmp .ge 31, 3) := by decide +kernel
theorem dX9_improve_36 : decode cX9_improve 36 = .ok (.aload_n 0, 1) := by decide +kernel
theorem dX9_improve_37 : decode cX9_improve 37 = .ok (.getfield 35, 3) := by decide +kernel
theorem dX9_improve_40 : decode cX9_improve 40 = .ok (.invokevirtual 331, 3) := by decide +kernel
theorem dX9_improve_43 : decode cX9_improve 43 = .ok (.istore 4, 2) := by decide +kernel
theorem dX9_improve_45 : decode cX9_improve 45 = .ok (.iload 4, 2) := by decide +kernel
theorem dX9_improve_47 : decode cX9_improve 47 = .ok (.ifCond .ne 6, 3) := by decide +kernel
theorem dX9_improve_50 : decode cX9_improve 50 = .ok (.goto 14, 3) := by decide +kernel
theorem dX9_improve_53 : decode cX9_improve 53 = .ok (.iload_n 2, 1) := by decide +kernel
theorem dX9_improve_54 : decode cX9_improve 54 = .ok (.iload 4, 2) := by decide +kernel
theorem dX9_improve_56 : decode cX9_improve 56 = .ok (.iadd, 1) := by decide +kernel
theorem dX9_improve_57 : decode cX9_improve 57 = .ok (.istore_n 2, 1) := by decide +kernel
theorem dX9_improve_58 : decode cX9_improve 58 = .ok (.iinc 3 1, 3) := by decide +kernel
theorem dX9_improve_61 : decode cX9_improve 61 = .ok (.goto (-30), 3) := by decide +kernel
theorem dX9_improve_64 : decode cX9_improve 64 = .ok (.iload_n 2, 1) := by decide +kernel
theorem dX9_improve_65 : decode cX9_improve 65 = .ok (.ireturn, 1) := by decide +kernel
theorem dX9_arrange_0 : decode cX9_arrange 0 = .ok (.aload_n 0, 1) := by decide +kernel
theorem dX9_arrange_1 : decode cX9_arrange 1 = .ok (.getfield 60, 3) := by decide +kernel
theorem dX9_arrange_4 : decode cX9_arrange 4 = .ok (.invokevirtual 307, 3) := by decide +kernel
theorem dX9_arrange_7 : decode cX9_arrange 7 = .ok (.aload_n 0, 1) := by decide +kernel
theorem dX9_arrange_8 : decode cX9_arrange 8 = .ok (.getfield 35, 3) := by decide +kernel
theorem dX9_arrange_11 : decode cX9_arrange 11 = .ok (.invokevirtual 334, 3) := by decide +kernel
theorem dX9_arrange_14 : decode cX9_arrange 14 = .ok (.aload_n 0, 1) := by decide +kernel
theorem dX9_arrange_15 : decode cX9_arrange 15 = .ok (.getfield 35, 3) := by decide +kernel
theorem dX9_arrange_18 : decode cX9_arrange 18 = .ok (.invokevirtual 259, 3) := by decide +kernel
theorem dX9_arrange_21 : decode cX9_arrange 21 = .ok (.ireturn, 1) := by decide +kernel
theorem dX9_plain_0 : decode cX9_plain 0 = .ok (.aload_n 0, 1) := by decide +kernel
theorem dX9_plain_1 : decode cX9_plain 1 = .ok (.getfield 60, 3) := by decide +kernel
theorem dX9_plain_4 : decode cX9_plain 4 = .ok (.invokevirtual 307, 3) := by decide +kernel
theorem dX9_plain_7 : decode cX9_plain 7 = .ok (.aload_n 0, 1) := by decide +kernel
theorem dX9_plain_8 : decode cX9_plain 8 = .ok (.getfield 35, 3) := by decide +kernel
theorem dX9_plain_11 : decode cX9_plain 11 = .ok (.invokevirtual 111, 3) := by decide +kernel
theorem dX9_plain_14 : decode cX9_plain 14 = .ok (.return_, 1) := by decide +kernel
theorem dX9_undoCount_0 : decode cX9_undoCount 0 = .ok (.aload_n 0, 1) := by decide +kernel
theorem dX9_undoCount_1 : decode cX9_undoCount 1 = .ok (.getfield 60, 3) := by decide +kernel
theorem dX9_undoCount_4 : decode cX9_undoCount 4 = .ok (.getfield 337, 3) := by decide +kernel
theorem dX9_undoCount_7 : decode cX9_undoCount 7 = .ok (.ireturn, 1) := by decide +kernel
theorem dX9_undo_0 : decode cX9_undo 0 = .ok (.aload_n 0, 1) := by decide +kernel
theorem dX9_undo_1 : decode cX9_undo 1 = .ok (.getfield 60, 3) := by decide +kernel
theorem dX9_undo_4 : decode cX9_undo 4 = .ok (.getfield 337, 3) := by decide +kernel
theorem dX9_undo_7 : decode cX9_undo 7 = .ok (.ifCond .gt 5, 3) := by decide +kernel
theorem dX9_undo_10 : decode cX9_undo 10 = .ok (.iconst (-1), 1) := by decide +kernel
theorem dX9_undo_11 : decode cX9_undo 11 = .ok (.ireturn, 1) := by decide +kernel
theorem dX9_undo_12 : decode cX9_undo 12 = .ok (.aload_n 0, 1) := by decide +kernel
theorem dX9_undo_13 : decode cX9_undo 13 = .ok (.getfield 60, 3) := by decide +kernel
theorem dX9_undo_16 : decode cX9_undo 16 = .ok (.invokevirtual 340, 3) := by decide +kernel
theorem dX9_undo_19 : decode cX9_undo 19 = .ok (.aload_n 0, 1) := by decide +kernel
theorem dX9_undo_20 : decode cX9_undo 20 = .ok (.getfield 60, 3) := by decide +kernel
theorem dX9_undo_23 : decode cX9_undo 23 = .ok (.getfield 337, 3) := by decide +kernel
theorem dX9_undo_26 : decode cX9_undo 26 = .ok (.ireturn, 1) := by decide +kernel
theorem dX9_saveSnapshot_0 : decode cX9_saveSnapshot 0 = .ok (.aload_n 0, 1) := by decide +kernel
theorem dX9_saveSnapshot_1 : decode cX9_saveSnapshot 1 = .ok (.getfield 60, 3) := by decide +kernel
theorem dX9_saveSnapshot_4 : decode cX9_saveSnapshot 4 = .ok (.invokevirtual 343, 3) := by decide +kernel
theorem dX9_saveSnapshot_7 : decode cX9_saveSnapshot 7 = .ok (.return_, 1) := by decide +kernel
theorem dX9_restoreSnapshot_0 : decode cX9_restoreSnapshot 0 = .ok (.aload_n 0, 1) := by decide +kernel
theorem dX9_restoreSnapshot_1 : decode cX9_restoreSnapshot 1 = .ok (.getfield 60, 3) := by decide +kernel
theorem dX9_restoreSnapshot_4 : decode cX9_restoreSnapshot 4 = .ok (.getfield 346, 3) := by decide +kernel
theorem dX9_restoreSnapshot_7 : decode cX9_restoreSnapshot 7 = .ok (.ifCond .ne 5, 3) := by decide +kernel
theorem dX9_restoreSnapshot_10 : decode cX9_restoreSnapshot 10 = .ok (.iconst 0, 1) := by decide +kernel
theorem dX9_restoreSnapshot_11 : decode cX9_restoreSnapshot 11 = .ok (.ireturn, 1) := by decide +kernel
theorem dX9_restoreSnapshot_12 : decode cX9_restoreSnapshot 12 = .ok (.aload_n 0, 1) := by decide +kernel
theorem dX9_restoreSnapshot_13 : decode cX9_restoreSnapshot 13 = .ok (.getfield 60, 3) := by decide +kernel
theorem dX9_restoreSnapshot_16 : decode cX9_restoreSnapshot 16 = .ok (.invokevirtual 350, 3) := by decide +kernel
theorem dX9_restoreSnapshot_19 : decode cX9_restoreSnapshot 19 = .ok (.iconst 1, 1) := by decide +kernel
theorem dX9_restoreSnapshot_20 : decode cX9_restoreSnapshot 20 = .ok (.ireturn, 1) := by decide +kernel
theorem dX9_renewRows_0 : decode cX9_renewRows 0 = .ok (.aload_n 0, 1) := by decide +kernel
theorem dX9_renewRows_1 : decode cX9_renewRows 1 = .ok (.getfield 19, 3) := by decide +kernel
theorem dX9_renewRows_4 : decode cX9_renewRows 4 = .ok (.invokevirtual 356, 3) := by decide +kernel
theorem dX9_renewRows_7 : decode cX9_renewRows 7 = .ok (.aload_n 0, 1) := by decide +kernel
theorem dX9_renewRows_8 : decode cX9_renewRows 8 = .ok (.getfield 35, 3) := by decide +kernel
theorem dX9_renewRows_11 : decode cX9_renewRows 11 = .ok (.invokevirtual 111, 3) := by decide +kernel
theorem dX9_renewRows_14 : decode cX9_renewRows 14 = .ok (.return_, 1) := by decide +kernel
theorem dX9_requirePerson_0 : decode cX9_requirePerson 0 = .ok (.aload_n 0, 1) := by decide +kernel
theorem dX9_requirePerson_1 : decode cX9_requirePerson 1 = .ok (.getfield 19, 3) := by decide +kernel
theorem dX9_requirePerson_4 : decode cX9_requirePerson 4 = .ok (.iload_n 1, 1) := by decide +kernel
theorem dX9_requirePerson_5 : decode cX9_requirePerson 5 = .ok (.invokevirtual 359, 3) := by decide +kernel
theorem dX9_requirePerson_8 : decode cX9_requirePerson 8 = .ok (.ifCond .ne 14, 3) := by decide +kernel
theorem dX9_requirePerson_11 : decode cX9_requirePerson 11 = .ok (.new 162, 3) := by decide +kernel
theorem dX9_requirePerson_14 : decode cX9_requirePerson 14 = .ok (.dup, 1) := by decide +kernel
theorem dX9_requirePerson_15 : decode cX9_requirePerson 15 = .ok (.ldc_w 362, 3) := by decide +kernel
theorem dX9_requirePerson_18 : decode cX9_requirePerson 18 = .ok (.invokespecial 166, 3) := by decide +kernel
theorem dX9_requirePerson_21 : decode cX9_requirePerson 21 = .ok (.athrow, 1) := by decide +kernel
theorem dX9_requirePerson_22 : decode cX9_requirePerson 22 = .ok (.return_, 1) := by decide +kernel
theorem dX9_requireUnion_0 : decode cX9_requireUnion 0 = .ok (.aload_n 0, 1) := by decide +kernel
theorem dX9_requireUnion_1 : decode cX9_requireUnion 1 = .ok (.getfield 19, 3) := by decide +kernel
theorem dX9_requireUnion_4 : decode cX9_requireUnion 4 = .ok (.iload_n 1, 1) := by decide +kernel
theorem dX9_requireUnion_5 : decode cX9_requireUnion 5 = .ok (.invokevirtual 364, 3) := by decide +kernel
theorem dX9_requireUnion_8 : decode cX9_requireUnion 8 = .ok (.ifCond .ne 14, 3) := by decide +kernel
theorem dX9_requireUnion_11 : decode cX9_requireUnion 11 = .ok (.new 162, 3) := by decide +kernel
theorem dX9_requireUnion_14 : decode cX9_requireUnion 14 = .ok (.dup, 1) := by decide +kernel
theorem dX9_requireUnion_15 : decode cX9_requireUnion 15 = .ok (.ldc_w 367, 3) := by decide +kernel
theorem dX9_requireUnion_18 : decode cX9_requireUnion 18 = .ok (.invokespecial 166, 3) := by decide +kernel
theorem dX9_requireUnion_21 : decode cX9_requireUnion 21 = .ok (.athrow, 1) := by decide +kernel
theorem dX9_requireUnion_22 : decode cX9_requireUnion 22 = .ok (.return_, 1) := by decide +kernel
theorem dX9_requireRow_0 : decode cX9_requireRow 0 = .ok (.iload_n 1, 1) := by decide +kernel
theorem dX9_requireRow_1 : decode cX9_requireRow 1 = .ok (.ifCond .lt 14, 3) := by decide +kernel
theorem dX9_requireRow_4 : decode cX9_requireRow 4 = .ok (.iload_n 1, 1) := by decide +kernel
theorem dX9_requireRow_5 : decode cX9_requireRow 5 = .ok (.aload_n 0, 1) := by decide +kernel
theorem dX9_requireRow_6 : decode cX9_requireRow 6 = .ok (.getfield 19, 3) := by decide +kernel
theorem dX9_requireRow_9 : decode cX9_requireRow 9 = .ok (.getfield 126, 3) := by decide +kernel
theorem dX9_requireRow_12 : decode cX9_requireRow 12 = .ok (.if_icmp .lt 14, 3) := by decide +kernel
theorem dX9_requireRow_15 : decode cX9_requireRow 15 = .ok (.new 162, 3) := by decide +kernel
theorem dX9_requireRow_18 : decode cX9_requireRow 18 = .ok (.dup, 1) := by decide +kernel
theorem dX9_requireRow_19 : decode cX9_requireRow 19 = .ok (.ldc_w 369, 3) := by decide +kernel
theorem dX9_requireRow_22 : decode cX9_requireRow 22 = .ok (.invokespecial 166, 3) := by decide +kernel
theorem dX9_requireRow_25 : decode cX9_requireRow 25 = .ok (.athrow, 1) := by decide +kernel
theorem dX9_requireRow_26 : decode cX9_requireRow 26 = .ok (.return_, 1) := by decide +kernel
theorem dX9_requirePlace_0 : decode cX9_requirePlace 0 = .ok (.aload_n 0, 1) := by decide +kernel
theorem dX9_requirePlace_1 : decode cX9_requirePlace 1 = .ok (.iload_n 1, 1) := by decide +kernel
theorem dX9_requirePlace_2 : decode cX9_requirePlace 2 = .ok (.invokevirtual 229, 3) := by decide +kernel
theorem dX9_requirePlace_5 : decode cX9_requirePlace 5 = .ok (.iload_n 2, 1) := by decide +kernel
theorem dX9_requirePlace_6 : decode cX9_requirePlace 6 = .ok (.ifCond .lt 15, 3) := by decide +kernel
theorem dX9_requirePlace_9 : decode cX9_requirePlace 9 = .ok (.iload_n 2, 1) := by decide +kernel
theorem dX9_requirePlace_10 : decode cX9_requirePlace 10 = .ok (.aload_n 0, 1) := by decide +kernel
theorem dX9_requirePlace_11 : decode cX9_requirePlace 11 = .ok (.getfield 35, 3) := by decide +kernel
theorem dX9_requirePlace_14 : decode cX9_requirePlace 14 = .ok (.iload_n 1, 1) := by decide +kernel
theorem dX9_requirePlace_15 : decode cX9_requirePlace 15 = .ok (.invokevirtual 232, 3) := by decide +kernel
theorem dX9_requirePlace_18 : decode cX9_requirePlace 18 = .ok (.if_icmp .lt 14, 3) := by decide +kernel
theorem dX9_requirePlace_21 : decode cX9_requirePlace 21 = .ok (.new 162, 3) := by decide +kernel
theorem dX9_requirePlace_24 : decode cX9_requirePlace 24 = .ok (.dup, 1) := by decide +kernel
theorem dX9_requirePlace_25 : decode cX9_requirePlace 25 = .ok (.ldc_w 371, 3) := by decide +kernel
theorem dX9_requirePlace_28 : decode cX9_requirePlace 28 = .ok (.invokespecial 166, 3) := by decide +kernel
theorem dX9_requirePlace_31 : decode cX9_requirePlace 31 = .ok (.athrow, 1) := by decide +kernel
theorem dX9_requirePlace_32 : decode cX9_requirePlace 32 = .ok (.return_, 1) := by decide +kernel
theorem dX9_requireStripWidth_0 : decode cX9_requireStripWidth 0 = .ok (.iload_n 0, 1) := by decide +kernel
theorem dX9_requireStripWidth_1 : decode cX9_requireStripWidth 1 = .ok (.bipush 10, 2) := by decide +kernel
theorem dX9_requireStripWidth_3 : decode cX9_requireStripWidth 3 = .ok (.if_icmp .lt 10, 3) := by decide +kernel
theorem dX9_requireStripWidth_6 : decode cX9_requireStripWidth 6 = .ok (.iload_n 0, 1) := by decide +kernel
theorem dX9_requireStripWidth_7 : decode cX9_requireStripWidth 7 = .ok (.sipush 200, 3) := by decide +kernel
theorem dX9_requireStripWidth_10 : decode cX9_requireStripWidth 10 = .ok (.if_icmp .le 14, 3) := by decide +kernel
theorem dX9_requireStripWidth_13 : decode cX9_requireStripWidth 13 = .ok (.new 94, 3) := by decide +kernel
theorem dX9_requireStripWidth_16 : decode cX9_requireStripWidth 16 = .ok (.dup, 1) := by decide +kernel
theorem dX9_requireStripWidth_17 : decode cX9_requireStripWidth 17 = .ok (.ldc_w 373, 3) := by decide +kernel
theorem dX9_requireStripWidth_20 : decode cX9_requireStripWidth 20 = .ok (.invokespecial 98, 3) := by decide +kernel
theorem dX9_requireStripWidth_23 : decode cX9_requireStripWidth 23 = .ok (.athrow, 1) := by decide +kernel
theorem dX9_requireStripWidth_24 : decode cX9_requireStripWidth 24 = .ok (.return_, 1) := by decide +kernel
theorem dX9_at_0 : decode cX9_at 0 = .ok (.aload_n 0, 1) := by decide +kernel
theorem dX9_at_1 : decode cX9_at 1 = .ok (.ifnull 13, 3) := by decide +kernel
theorem dX9_at_4 : decode cX9_at 4 = .ok (.iload_n 1, 1) := by decide +kernel
theorem dX9_at_5 : decode cX9_at 5 = .ok (.ifCond .lt 9, 3) := by decide +kernel
theorem dX9_at_8 : decode cX9_at 8 = .ok (.iload_n 1, 1) := by decide +kernel
theorem dX9_at_9 : decode cX9_at 9 = .ok (.aload_n 0, 1) := by decide +kernel
theorem dX9_at_10 : decode cX9_at 10 = .ok (.arraylength, 1) := by decide +kernel
theorem dX9_at_11 : decode cX9_at 11 = .ok (.if_icmp .lt 7, 3) := by decide +kernel
theorem dX9_at_14 : decode cX9_at 14 = .ok (.iconst (-1), 1) := by decide +kernel
theorem dX9_at_15 : decode cX9_at 15 = .ok (.goto 6, 3) := by decide +kernel
theorem dX9_at_18 : decode cX9_at 18 = .ok (.aload_n 0, 1) := by decide +kernel
theorem dX9_at_19 : decode cX9_at 19 = .ok (.iload_n 1, 1) := by decide +kernel
theorem dX9_at_20 : decode cX9_at 20 = .ok (.iaload, 1) := by decide +kernel
theorem dX9_at_21 : decode cX9_at 21 = .ok (.ireturn, 1) := by decide +kernel
theorem dX9_put_0 : decode cX9_put 0 = .ok (.aload_n 0, 1) := by decide +kernel
theorem dX9_put_1 : decode cX9_put 1 = .ok (.ifnull 17, 3) := by decide +kernel
theorem dX9_put_4 : decode cX9_put 4 = .ok (.iload_n 1, 1) := by decide +kernel
theorem dX9_put_5 : decode cX9_put 5 = .ok (.ifCond .lt 13, 3) := by decide +kernel
theorem dX9_put_8 : decode cX9_put 8 = .ok (.iload_n 1, 1) := by decide +kernel
theorem dX9_put_9 : decode cX9_put 9 = .ok (.aload_n 0, 1) := by decide +kernel
theorem dX9_put_10 : decode cX9_put 10 = .ok (.arraylength, 1) := by decide +kernel
theorem dX9_put_11 : decode cX9_put 11 = .ok (.if_icmp .ge 7, 3) := by decide +kernel
theorem dX9_put_14 : decode cX9_put 14 = .ok (.aload_n 0, 1) := by decide +kernel
theorem dX9_put_15 : decode cX9_put 15 = .ok (.iload_n 1, 1) := by decide +kernel
theorem dX9_put_16 : decode cX9_put 16 = .ok (.iload_n 2, 1) := by decide +kernel
theorem dX9_put_17 : decode cX9_put 17 = .ok (.iastore, 1) := by decide +kernel
theorem dX9_put_18 : decode cX9_put 18 = .ok (.return_, 1) := by decide +kernel
theorem dX9_fill_0 : decode cX9_fill 0 = .ok (.iconst 0, 1) := by decide +kernel
theorem dX9_fill_1 : decode cX9_fill 1 = .ok (.istore_n 2, 1) := by decide +kernel
theorem dX9_fill_2 : decode cX9_fill 2 = .ok (.aload_n 0, 1) := by decide +kernel
theorem dX9_fill_3 : decode cX9_fill 3 = .ok (.ifnull 19, 3) := by decide +kernel
theorem dX9_fill_6 : decode cX9_fill 6 = .ok (.iload_n 2, 1) := by decide +kernel
theorem dX9_fill_7 : decode cX9_fill 7 = .ok (.aload_n 0, 1) := by decide +kernel
theorem dX9_fill_8 : decode cX9_fill 8 = .ok (.arraylength, 1) := by decide +kernel
theorem dX9_fill_9 : decode cX9_fill 9 = .ok (.if_icmp .ge 13, 3) := by decide +kernel
theorem dX9_fill_12 : decode cX9_fill 12 = .ok (.aload_n 0, 1) := by decide +kernel
theorem dX9_fill_13 : decode cX9_fill 13 = .ok (.iload_n 2, 1) := by decide +kernel
theorem dX9_fill_14 : decode cX9_fill 14 = .ok (.iload_n 1, 1) := by decide +kernel
theorem dX9_fill_15 : decode cX9_fill 15 = .ok (.iastore, 1) := by decide +kernel
theorem dX9_fill_16 : decode cX9_fill 16 = .ok (.iinc 2 1, 3) := by decide +kernel
theorem dX9_fill_19 : decode cX9_fill 19 = .ok (.goto (-17), 3) := by decide +kernel
theorem dX9_fill_22 : decode cX9_fill 22 = .ok (.return_, 1) := by decide +kernel
theorem dX9_copyCells_0 : decode cX9_copyCells 0 = .ok (.iconst 0, 1) := by decide +kernel
theorem dX9_copyCells_1 : decode cX9_copyCells 1 = .ok (.istore 5, 2) := by decide +kernel
theorem dX9_copyCells_3 : decode cX9_copyCells 3 = .ok (.iload 5, 2) := by decide +kernel
theorem dX9_copyCells_5 : decode cX9_copyCells 5 = .ok (.iload 4, 2) := by decide +kernel
theorem dX9_copyCells_7 : decode cX9_copyCells 7 = .ok (.if_icmp .ge 25, 3) := by decide +kernel
theorem dX9_copyCells_10 : decode cX9_copyCells 10 = .ok (.aload_n 2, 1) := by decide +kernel
theorem dX9_copyCells_11 : decode cX9_copyCells 11 = .ok (.iload_n 3, 1) := by decide +kernel
theorem dX9_copyCells_12 : decode cX9_copyCells 12 = .ok (.iload 5, 2) := by decide +kernel
theorem dX9_copyCells_14 : decode cX9_copyCells 14 = .ok (.iadd, 1) := by decide +kernel
theorem dX9_copyCells_15 : decode cX9_copyCells 15 = .ok (.aload_n 0, 1) := by decide +kernel
theorem dX9_copyCells_16 : decode cX9_copyCells 16 = .ok (.iload_n 1, 1) := by decide +kernel
theorem dX9_copyCells_17 : decode cX9_copyCells 17 = .ok (.iload 5, 2) := by decide +kernel
theorem dX9_copyCells_19 : decode cX9_copyCells 19 = .ok (.iadd, 1) := by decide +kernel
theorem dX9_copyCells_20 : decode cX9_copyCells 20 = .ok (.invokestatic 146, 3) := by decide +kernel
theorem dX9_copyCells_23 : decode cX9_copyCells 23 = .ok (.invokestatic 325, 3) := by decide +kernel
theorem dX9_copyCells_26 : decode cX9_copyCells 26 = .ok (.iinc 5 1, 3) := by decide +kernel
theorem dX9_copyCells_29 : decode cX9_copyCells 29 = .ok (.goto (-26), 3) := by decide +kernel
theorem dX9_copyCells_32 : decode cX9_copyCells 32 = .ok (.return_, 1) := by decide +kernel
theorem dX9_bit_0 : decode cX9_bit 0 = .ok (.iload_n 0, 1) := by decide +kernel
theorem dX9_bit_1 : decode cX9_bit 1 = .ok (.ifCond .lt 9, 3) := by decide +kernel
theorem dX9_bit_4 : decode cX9_bit 4 = .ok (.iload_n 0, 1) := by decide +kernel
theorem dX9_bit_5 : decode cX9_bit 5 = .ok (.bipush 16, 2) := by decide +kernel
theorem dX9_bit_7 : decode cX9_bit 7 = .ok (.if_icmp .lt 7, 3) := by decide +kernel
theorem dX9_bit_10 : decode cX9_bit 10 = .ok (.iconst 0, 1) := by decide +kernel
theorem dX9_bit_11 : decode cX9_bit 11 = .ok (.goto 6, 3) := by decide +kernel
theorem dX9_bit_14 : decode cX9_bit 14 = .ok (.iconst 1, 1) := by decide +kernel
theorem dX9_bit_15 : decode cX9_bit 15 = .ok (.iload_n 0, 1) := by decide +kernel
theorem dX9_bit_16 : decode cX9_bit 16 = .ok (.ishl, 1) := by decide +kernel
theorem dX9_bit_17 : decode cX9_bit 17 = .ok (.ireturn, 1) := by decide +kernel
theorem dX9_unionOfReference_0 : decode cX9_unionOfReference 0 = .ok (.iload_n 0, 1) := by decide +kernel
theorem dX9_unionOfReference_1 : decode cX9_unionOfReference 1 = .ok (.bipush 16, 2) := by decide +kernel
theorem dX9_unionOfReference_3 : decode cX9_unionOfReference 3 = .ok (.if_icmp .ge 7, 3) := by decide +kernel
theorem dX9_unionOfReference_6 : decode cX9_unionOfReference 6 = .ok (.iconst (-1), 1) := by decide +kernel
theorem dX9_unionOfReference_7 : decode cX9_unionOfReference 7 = .ok (.goto 7, 3) := by decide +kernel
theorem dX9_unionOfReference_10 : decode cX9_unionOfReference 10 = .ok (.iload_n 0, 1) := by decide +kernel
theorem dX9_unionOfReference_11 : decode cX9_unionOfReference 11 = .ok (.bipush 16, 2) := by decide +kernel
theorem dX9_unionOfReference_13 : decode cX9_unionOfReference 13 = .ok (.isub, 1) := by decide +kernel
theorem dX9_unionOfReference_14 : decode cX9_unionOfReference 14 = .ok (.ireturn, 1) := by decide +kernel
theorem dX10_init_0 : decode cX10_init 0 = .ok (.aload_n 0, 1) := by decide +kernel
theorem dX10_init_1 : decode cX10_init 1 = .ok (.invokespecial 1, 3) := by decide +kernel
theorem dX10_init_4 : decode cX10_init 4 = .ok (.aload_n 0, 1) := by decide +kernel
theorem dX10_init_5 : decode cX10_init 5 = .ok (.bipush 16, 2) := by decide +kernel
theorem dX10_init_7 : decode cX10_init 7 = .ok (.newarray .int, 2) := by decide +kernel
theorem dX10_init_9 : decode cX10_init 9 = .ok (.putfield 7, 3) := by decide +kernel
theorem dX10_init_12 : decode cX10_init 12 = .ok (.aload_n 0, 1) := by decide +kernel
theorem dX10_init_13 : decode cX10_init 13 = .ok (.bipush 16, 2) := by decide +kernel
theorem dX10_init_15 : decode cX10_init 15 = .ok (.newarray .int, 2) := by decide +kernel
theorem dX10_init_17 : decode cX10_init 17 = .ok (.putfield 13, 3) := by decide +kernel
theorem dX10_init_20 : decode cX10_init 20 = .ok (.aload_n 0, 1) := by decide +kernel
theorem dX10_init_21 : decode cX10_init 21 = .ok (.bipush 16, 2) := by decide +kernel
theorem dX10_init_23 : decode cX10_init 23 = .ok (.newarray .int, 2) := by decide +kernel
theorem dX10_init_25 : decode cX10_init 25 = .ok (.putfield 16, 3) := by decide +kernel
theorem dX10_init_28 : decode cX10_init 28 = .ok (.aload_n 0, 1) := by decide +kernel
theorem dX10_init_29 : decode cX10_init 29 = .ok (.bipush 12, 2) := by decide +kernel
theorem dX10_init_31 : decode cX10_init 31 = .ok (.anewarray 19, 3) := by decide +kernel
theorem dX10_init_34 : decode cX10_init 34 = .ok (.putfield 20, 3) := by decide +kernel
theorem dX10_init_37 : decode cX10_init 37 = .ok (.aload_n 0, 1) := by decide +kernel
theorem dX10_init_38 : decode cX10_init 38 = .ok (.bipush 16, 2) := by decide +kernel
theorem dX10_init_40 : decode cX10_init 40 = .ok (.anewarray 19, 3) := by decide +kernel
theorem dX10_init_43 : decode cX10_init 43 = .ok (.putfield 24, 3) := by decide +kernel
theorem dX10_init_46 : decode cX10_init 46 = .ok (.aload_n 0, 1) := by decide +kernel
theorem dX10_init_47 : decode cX10_init 47 = .ok (.bipush 16, 2) := by decide +kernel
theorem dX10_init_49 : decode cX10_init 49 = .ok (.newarray .int, 2) := by decide +kernel
theorem dX10_init_51 : decode cX10_init 51 = .ok (.putfield 27, 3) := by decide +kernel
theorem dX10_init_54 : decode cX10_init 54 = .ok (.aload_n 0, 1) := by decide +kernel
theorem dX10_init_55 : decode cX10_init 55 = .ok (.bipush 12, 2) := by decide +kernel
theorem dX10_init_57 : decode cX10_init 57 = .ok (.newarray .int, 2) := by decide +kernel
theorem dX10_init_59 : decode cX10_init 59 = .ok (.putfield 30, 3) := by decide +kernel
theorem dX10_init_62 : decode cX10_init 62 = .ok (.aload_n 0, 1) := by decide +kernel
theorem dX10_init_63 : decode cX10_init 63 = .ok (.bipush 16, 2) := by decide +kernel
theorem dX10_init_65 : decode cX10_init 65 = .ok (.bipush 16, 2) := by decide +kernel
theorem dX10_init_67 : decode cX10_init 67 = .ok (.multianewarray 33 2, 4) := by decide +kernel
theorem dX10_init_71 : decode cX10_init 71 = .ok (.putfield 35, 3) := by decide +kernel
theorem dX10_init_74 : decode cX10_init 74 = .ok (.aload_n 0, 1) := by decide +kernel
theorem dX10_init_75 : decode cX10_init 75 = .ok (.bipush 28, 2) := by decide +kernel
theorem dX10_init_77 : decode cX10_init 77 = .ok (.newarray .int, 2) := by decide +kernel
theorem dX10_init_79 : decode cX10_init 79 = .ok (.putfield 38, 3) := by decide +kernel
theorem dX10_init_82 : decode cX10_init 82 = .ok (.return_, 1) := by decide +kernel
theorem dX10_gen_0 : decode cX10_gen 0 = .ok (.aload_n 0, 1) := by decide +kernel
theorem dX10_gen_1 : decode cX10_gen 1 = .ok (.getfield 27, 3) := by decide +kernel
theorem dX10_gen_4 : decode cX10_gen 4 = .ok (.iload_n 1, 1) := by decide +kernel
theorem dX10_gen_5 : decode cX10_gen 5 = .ok (.iaload, 1) := by decide +kernel
theorem dX10_gen_6 : decode cX10_gen 6 = .ok (.ireturn, 1) := by decide +kernel
theorem dX10_level_0 : decode cX10_level 0 = .ok (.aload_n 0, 1) := by decide +kernel
theorem dX10_level_1 : decode cX10_level 1 = .ok (.getfield 30, 3) := by decide +kernel
theorem dX10_level_4 : decode cX10_level 4 = .ok (.iload_n 1, 1) := by decide +kernel
theorem dX10_level_5 : decode cX10_level 5 = .ok (.iaload, 1) := by decide +kernel
theorem dX10_level_6 : decode cX10_level 6 = .ok (.ireturn, 1) := by decide +kernel
theorem dX10_finds_0 : decode cX10_finds 0 = .ok (.aload_n 0, 1) := by decide +kernel
theorem dX10_finds_1 : decode cX10_finds 1 = .ok (.getfield 13, 3) := by decide +kernel
theorem dX10_finds_4 : decode cX10_finds 4 = .ok (.iload_n 1, 1) := by decide +kernel
theorem dX10_finds_5 : decode cX10_finds 5 = .ok (.iaload, 1) := by decide +kernel
theorem dX10_finds_6 : decode cX10_finds 6 = .ok (.ifCond .ge 7, 3) := by decide +kernel
theorem dX10_finds_9 : decode cX10_finds 9 = .ok (.iconst 0, 1) := by decide +kernel
theorem dX10_finds_10 : decode cX10_finds 10 = .ok (.goto 42, 3) := by decide +kernel
theorem dX10_finds_13 : decode cX10_finds 13 = .ok (.iconst 1, 1) := by decide +kernel
theorem dX10_finds_14 : decode cX10_finds 14 = .ok (.aload_n 0, 1) := by decide +kernel
theorem dX10_finds_15 : decode cX10_finds 15 = .ok (.aload_n 0, 1) := by decide +kernel
theorem dX10_finds_16 : decode cX10_finds 16 = .ok (.getfield 20, 3) := by decide +kernel
theorem dX10_finds_19 : decode cX10_finds 19 = .ok (.aload_n 0, 1) := by decide +kernel
theorem dX10_finds_20 : decode cX10_finds 20 = .ok (.getfield 13, 3) := by decide +kernel
theorem dX10_finds_23 : decode cX10_finds 23 = .ok (.iload_n 1, 1) := by decide +kernel
theorem dX10_finds_24 : decode cX10_finds 24 = .ok (.iaload, 1) := by decide +kernel
theorem dX10_finds_25 : decode cX10_finds 25 = .ok (.aaload, 1) := by decide +kernel
theorem dX10_finds_26 : decode cX10_finds 26 = .ok (.iconst 0, 1) := by decide +kernel
theorem dX10_finds_27 : decode cX10_finds 27 = .ok (.iaload, 1) := by decide +kernel
theorem dX10_finds_28 : decode cX10_finds 28 = .ok (.invokevirtual 59, 3) := by decide +kernel
theorem dX10_finds_31 : decode cX10_finds 31 = .ok (.aload_n 0, 1) := by decide +kernel
theorem dX10_finds_32 : decode cX10_finds 32 = .ok (.aload_n 0, 1) := by decide +kernel
theorem dX10_finds_33 : decode cX10_finds 33 = .ok (.getfield 20, 3) := by decide +kernel
theorem dX10_finds_36 : decode cX10_finds 36 = .ok (.aload_n 0, 1) := by decide +kernel
theorem dX10_finds_37 : decode cX10_finds 37 = .ok (.getfield 13, 3) := by decide +kernel
theorem dX10_finds_40 : decode cX10_finds 40 = .ok (.iload_n 1, 1) := by decide +kernel
theorem dX10_finds_41 : decode cX10_finds 41 = .ok (.iaload, 1) := by decide +kernel
theorem dX10_finds_42 : decode cX10_finds 42 = .ok (.aaload, 1) := by decide +kernel
theorem dX10_finds_43 : decode cX10_finds 43 = .ok (.iconst 1, 1) := by decide +kernel
theorem dX10_finds_44 : decode cX10_finds 44 = .ok (.iaload, 1) := by decide +kernel
theorem dX10_finds_45 : decode cX10_finds 45 = .ok (.invokevirtual 59, 3) := by decide +kernel
theorem dX10_finds_48 : decode cX10_finds 48 = .ok (.invokestatic 63, 3) := by decide +kernel
theorem dX10_finds_51 : decode cX10_finds 51 = .ok (.iadd, 1) := by decide +kernel
theorem dX10_finds_52 : decode cX10_finds 52 = .ok (.ireturn, 1) := by decide +kernel
theorem dX10_up_0 : decode cX10_up 0 = .ok (.aload_n 0, 1) := by decide +kernel
theorem dX10_up_1 : decode cX10_up 1 = .ok (.getfield 13, 3) := by decide +kernel
theorem dX10_up_4 : decode cX10_up 4 = .ok (.iload_n 1, 1) := by decide +kernel
theorem dX10_up_5 : decode cX10_up 5 = .ok (.iaload, 1) := by decide +kernel
theorem dX10_up_6 : decode cX10_up 6 = .ok (.ifCond .ge 5, 3) := by decide +kernel
theorem dX10_up_9 : decode cX10_up 9 = .ok (.iconst 0, 1) := by decide +kernel
theorem dX10_up_10 : decode cX10_up 10 = .ok (.ireturn, 1) := by decide +kernel
theorem dX10_up_11 : decode cX10_up 11 = .ok (.aload_n 0, 1) := by decide +kernel
theorem dX10_up_12 : decode cX10_up 12 = .ok (.getfield 20, 3) := by decide +kernel
theorem dX10_up_15 : decode cX10_up 15 = .ok (.aload_n 0, 1) := by decide +kernel
theorem dX10_up_16 : decode cX10_up 16 = .ok (.getfield 13, 3) := by decide +kernel
theorem dX10_up_19 : decode cX10_up 19 = .ok (.iload_n 1, 1) := by decide +kernel
theorem dX10_up_20 : decode cX10_up 20 = .ok (.iaload, 1) := by decide +kernel
theorem dX10_up_21 : decode cX10_up 21 = .ok (.aaload, 1) := by decide +kernel
theorem dX10_up_22 : decode cX10_up 22 = .ok (.astore_n 2, 1) := by decide +kernel
theorem dX10_up_23 : decode cX10_up 23 = .ok (.iconst 1, 1) := by decide +kernel
theorem dX10_up_24 : decode cX10_up 24 = .ok (.aload_n 2, 1) := by decide +kernel
theorem dX10_up_25 : decode cX10_up 25 = .ok (.iconst 0, 1) := by decide +kernel
theorem dX10_up_26 : decode cX10_up 26 = .ok (.iaload, 1) := by decide +kernel
theorem dX10_up_27 : decode cX10_up 27 = .ok (.ishl, 1) := by decide +kernel
theorem dX10_up_28 : decode cX10_up 28 = .ok (.iconst 1, 1) := by decide +kernel
theorem dX10_up_29 : decode cX10_up 29 = .ok (.aload_n 2, 1) := by decide +kernel
theorem dX10_up_30 : decode cX10_up 30 = .ok (.iconst 1, 1) := by decide +kernel
theorem dX10_up_31 : decode cX10_up 31 = .ok (.iaload, 1) := by decide +kernel
theorem dX10_up_32 : decode cX10_up 32 = .ok (.ishl, 1) := by decide +kernel
theorem dX10_up_33 : decode cX10_up 33 = .ok (.ior, 1) := by decide +kernel
theorem dX10_up_34 : decode cX10_up 34 = .ok (.aload_n 0, 1) := by decide +kernel
theorem dX10_up_35 : decode cX10_up 35 = .ok (.aload_n 2, 1) := by decide +kernel
theorem dX10_up_36 : decode cX10_up 36 = .ok (.iconst 0, 1) := by decide +kernel
theorem dX10_up_37 : decode cX10_up 37 = .ok (.iaload, 1) := by decide +kernel
theorem dX10_up_38 : decode cX10_up 38 = .ok (.invokevirtual 69, 3) := by decide +kernel
theorem dX10_up_41 : decode cX10_up 41 = .ok (.ior, 1) := by decide +kernel
theorem dX10_up_42 : decode cX10_up 42 = .ok (.aload_n 0, 1) := by decide +kernel
theorem dX10_up_43 : decode cX10_up 43 = .ok (.aload_n 2, 1) := by decide +kernel
theorem dX10_up_44 : decode cX10_up 44 = .ok (.iconst 1, 1) := by decide +kernel
theorem dX10_up_45 : decode cX10_up 45 = .ok (.iaload, 1) := by decide +kernel
theorem dX10_up_46 : decode cX10_up 46 = .ok (.invokevirtual 69, 3) := by decide +kernel
theorem dX10_up_49 : decode cX10_up 49 = .ok (.ior, 1) := by decide +kernel
theorem dX10_up_50 : decode cX10_up 50 = .ok (.ireturn, 1) := by decide +kernel
theorem dX10_in_0 : decode cX10_in 0 = .ok (.aload_n 0, 1) := by decide +kernel
theorem dX10_in_1 : decode cX10_in 1 = .ok (.getfield 20, 3) := by decide +kernel
theorem dX10_in_4 : decode cX10_in 4 = .ok (.iload_n 1, 1) := by decide +kernel
theorem dX10_in_5 : decode cX10_in 5 = .ok (.aaload, 1) := by decide +kernel
theorem dX10_in_6 : decode cX10_in 6 = .ok (.iconst 0, 1) := by decide +kernel
theorem dX10_in_7 : decode cX10_in 7 = .ok (.iaload, 1) := by decide +kernel
theorem dX10_in_8 : decode cX10_in 8 = .ok (.iload_n 2, 1) := by decide +kernel
theorem dX10_in_9 : decode cX10_in 9 = .ok (.if_icmp .eq 15, 3) := by decide +kernel
theorem dX10_in_12 : decode cX10_in 12 = .ok (.aload_n 0, 1) := by decide +kernel
theorem dX10_in_13 : decode cX10_in 13 = .ok (.getfield 20, 3) := by decide +kernel
theorem dX10_in_16 : decode cX10_in 16 = .ok (.iload_n 1, 1) := by decide +kernel
theorem dX10_in_17 : decode cX10_in 17 = .ok (.aaload, 1) := by decide +kernel
theorem dX10_in_18 : decode cX10_in 18 = .ok (.iconst 1, 1) := by decide +kernel
theorem dX10_in_19 : decode cX10_in 19 = .ok (.iaload, 1) := by decide +kernel
theorem dX10_in_20 : decode cX10_in 20 = .ok (.iload_n 2, 1) := by decide +kernel
theorem dX10_in_21 : decode cX10_in 21 = .ok (.if_icmp .ne 7, 3) := by decide +kernel
theorem dX10_in_24 : decode cX10_in 24 = .ok (.iconst 1, 1) := by decide +kernel
theorem dX10_in_25 : decode cX10_in 25 = .ok (.goto 4, 3) := by decide +kernel
theorem dX10_in_28 : decode cX10_in 28 = .ok (.iconst 0, 1) := by decide +kernel
theorem dX10_in_29 : decode cX10_in 29 = .ok (.ireturn, 1) := by decide +kernel
theorem dX10_less_0 : decode cX10_less 0 = .ok (.aload_n 0, 1) := by decide +kernel
theorem dX10_less_1 : decode cX10_less 1 = .ok (.iload_n 1, 1) := by decide +kernel
theorem dX10_less_2 : decode cX10_less 2 = .ok (.invokevirtual 72, 3) := by decide +kernel
theorem dX10_less_5 : decode cX10_less 5 = .ok (.istore_n 2, 1) := by decide +kernel
theorem dX10_less_6 : decode cX10_less 6 = .ok (.aload_n 0, 1) := by decide +kernel
theorem dX10_less_7 : decode cX10_less 7 = .ok (.aload_n 0, 1) := by decide +kernel
theorem dX10_less_8 : decode cX10_less 8 = .ok (.getfield 20, 3) := by decide +kernel
theorem dX10_less_11 : decode cX10_less 11 = .ok (.iload_n 1, 1) := by decide +kernel
theorem dX10_less_12 : decode cX10_less 12 = .ok (.aaload, 1) := by decide +kernel
theorem dX10_less_13 : decode cX10_less 13 = .ok (.iconst 0, 1) := by decide +kernel
theorem dX10_less_14 : decode cX10_less 14 = .ok (.iaload, 1) := by decide +kernel
theorem dX10_less_15 : decode cX10_less 15 = .ok (.invokevirtual 75, 3) := by decide +kernel
theorem dX10_less_18 : decode cX10_less 18 = .ok (.iload_n 2, 1) := by decide +kernel
theorem dX10_less_19 : decode cX10_less 19 = .ok (.if_icmp .ge 14, 3) := by decide +kernel
theorem dX10_less_22 : decode cX10_less 22 = .ok (.aload_n 0, 1) := by decide +kernel
theorem dX10_less_23 : decode cX10_less 23 = .ok (.getfield 20, 3) := by decide +kernel
theorem dX10_less_26 : decode cX10_less 26 = .ok (.iload_n 1, 1) := by decide +kernel
theorem dX10_less_27 : decode cX10_less 27 = .ok (.aaload, 1) := by decide +kernel
theorem dX10_less_28 : decode cX10_less 28 = .ok (.iconst 0, 1) := by decide +kernel
theorem dX10_less_29 : decode cX10_less 29 = .ok (.iaload, 1) := by decide +kernel
theorem dX10_less_30 : decode cX10_less 30 = .ok (.goto 31, 3) := by decide +kernel
theorem dX10_less_33 : decode cX10_less 33 = .ok (.aload_n 0, 1) := by decide +kernel
theorem dX10_less_34 : decode cX10_less 34 = .ok (.aload_n 0, 1) := by decide +kernel
theorem dX10_less_35 : decode cX10_less 35 = .ok (.getfield 20, 3) := by decide +kernel
theorem dX10_less_38 : decode cX10_less 38 = .ok (.iload_n 1, 1) := by decide +kernel
theorem dX10_less_39 : decode cX10_less 39 = .ok (.aaload, 1) := by decide +kernel
theorem dX10_less_40 : decode cX10_less 40 = .ok (.iconst 1, 1) := by decide +kernel
theorem dX10_less_41 : decode cX10_less 41 = .ok (.iaload, 1) := by decide +kernel
theorem dX10_less_42 : decode cX10_less 42 = .ok (.invokevirtual 75, 3) := by decide +kernel
theorem dX10_less_45 : decode cX10_less 45 = .ok (.iload_n 2, 1) := by decide +kernel
theorem dX10_less_46 : decode cX10_less 46 = .ok (.if_icmp .ge 14, 3) := by decide +kernel
theorem dX10_less_49 : decode cX10_less 49 = .ok (.aload_n 0, 1) := by decide +kernel
theorem dX10_less_50 : decode cX10_less 50 = .ok (.getfield 20, 3) := by decide +kernel
theorem dX10_less_53 : decode cX10_less 53 = .ok (.iload_n 1, 1) := by decide +kernel
theorem dX10_less_54 : decode cX10_less 54 = .ok (.aaload, 1) := by decide +kernel
theorem dX10_less_55 : decode cX10_less 55 = .ok (.iconst 1, 1) := by decide +kernel
theorem dX10_less_56 : decode cX10_less 56 = .ok (.iaload, 1) := by decide +kernel
theorem dX10_less_57 : decode cX10_less 57 = .ok (.goto 4, 3) := by decide +kernel
theorem dX10_less_60 : decode cX10_less 60 = .ok (.iconst (-1), 1) := by decide +kernel
theorem dX10_less_61 : decode cX10_less 61 = .ok (.ireturn, 1) := by decide +kernel
theorem dX10_plain_0 : decode cX10_plain 0 = .ok (.aload_n 0, 1) := by decide +kernel
theorem dX10_plain_1 : decode cX10_plain 1 = .ok (.iconst 0, 1) := by decide +kernel
theorem dX10_plain_2 : decode cX10_plain 2 = .ok (.putfield 53, 3) := by decide +kernel
theorem dX10_plain_5 : decode cX10_plain 5 = .ok (.iconst 0, 1) := by decide +kernel
theorem dX10_plain_6 : decode cX10_plain 6 = .ok (.istore_n 1, 1) := by decide +kernel
theorem dX10_plain_7 : decode cX10_plain 7 = .ok (.iload_n 1, 1) := by decide +kernel
theorem dX10_plain_8 : decode cX10_plain 8 = .ok (.aload_n 0, 1) := by decide +kernel
theorem dX10_plain_9 : decode cX10_plain 9 = .ok (.getfield 42, 3) := by decide +kernel
theorem dX10_plain_12 : decode cX10_plain 12 = .ok (.if_icmp .ge 45, 3) := by decide +kernel
theorem dX10_plain_15 : decode cX10_plain 15 = .ok (.aload_n 0, 1) := by decide +kernel
theorem dX10_plain_16 : decode cX10_plain 16 = .ok (.getfield 27, 3) := by decide +kernel
theorem dX10_plain_19 : decode cX10_plain 19 = .ok (.iload_n 1, 1) := by decide +kernel
theorem dX10_plain_20 : decode cX10_plain 20 = .ok (.aload_n 0, 1) := by decide +kernel
theorem dX10_plain_21 : decode cX10_plain 21 = .ok (.iload_n 1, 1) := by decide +kernel
theorem dX10_plain_22 : decode cX10_plain 22 = .ok (.invokevirtual 59, 3) := by decide +kernel
theorem dX10_plain_25 : decode cX10_plain 25 = .ok (.iastore, 1) := by decide +kernel
theorem dX10_plain_26 : decode cX10_plain 26 = .ok (.iconst 0, 1) := by decide +kernel
theorem dX10_plain_27 : decode cX10_plain 27 = .ok (.istore_n 2, 1) := by decide +kernel
theorem dX10_plain_28 : decode cX10_plain 28 = .ok (.iload_n 2, 1) := by decide +kernel
theorem dX10_plain_29 : decode cX10_plain 29 = .ok (.bipush 16, 2) := by decide +kernel
theorem dX10_plain_31 : decode cX10_plain 31 = .ok (.if_icmp .ge 20, 3) := by decide +kernel
theorem dX10_plain_34 : decode cX10_plain 34 = .ok (.aload_n 0, 1) := by decide +kernel
theorem dX10_plain_35 : decode cX10_plain 35 = .ok (.getfield 35, 3) := by decide +kernel
theorem dX10_plain_38 : decode cX10_plain 38 = .ok (.iload_n 1, 1) := by decide +kernel
theorem dX10_plain_39 : decode cX10_plain 39 = .ok (.aaload, 1) := by decide +kernel
theorem dX10_plain_40 : decode cX10_plain 40 = .ok (.iload_n 2, 1) := by decide +kernel
theorem dX10_plain_41 : decode cX10_plain 41 = .ok (.ldc2_w 78, 3) := by decide +kernel
theorem dX10_plain_44 : decode cX10_plain 44 = .ok (.lastore, 1) := by decide +kernel
theorem dX10_plain_45 : decode cX10_plain 45 = .ok (.iinc 2 1, 3) := by decide +kernel
theorem dX10_plain_48 : decode cX10_plain 48 = .ok (.goto (-20), 3) := by decide +kernel
theorem dX10_plain_51 : decode cX10_plain 51 = .ok (.iinc 1 1, 3) := by decide +kernel
theorem dX10_plain_54 : decode cX10_plain 54 = .ok (.goto (-47), 3) := by decide +kernel
theorem dX10_plain_57 : decode cX10_plain 57 = .ok (.iconst 0, 1) := by decide +kernel
theorem dX10_plain_58 : decode cX10_plain 58 = .ok (.istore_n 1, 1) := by decide +kernel
theorem dX10_plain_59 : decode cX10_plain 59 = .ok (.iload_n 1, 1) := by decide +kernel
theorem dX10_plain_60 : decode cX10_plain 60 = .ok (.aload_n 0, 1) := by decide +kernel
theorem dX10_plain_61 : decode cX10_plain 61 = .ok (.getfield 46, 3) := by decide +kernel
theorem dX10_plain_64 : decode cX10_plain 64 = .ok (.if_icmp .ge 44, 3) := by decide +kernel
theorem dX10_plain_67 : decode cX10_plain 67 = .ok (.aload_n 0, 1) := by decide +kernel
theorem dX10_plain_68 : decode cX10_plain 68 = .ok (.getfield 30, 3) := by decide +kernel
theorem dX10_plain_71 : decode cX10_plain 71 = .ok (.iload_n 1, 1) := by decide +kernel
theorem dX10_plain_72 : decode cX10_plain 72 = .ok (.aload_n 0, 1) := by decide +kernel
theorem dX10_plain_73 : decode cX10_plain 73 = .ok (.getfield 27, 3) := by decide +kernel
theorem dX10_plain_76 : decode cX10_plain 76 = .ok (.aload_n 0, 1) := by decide +kernel
theorem dX10_plain_77 : decode cX10_plain 77 = .ok (.getfield 20, 3) := by decide +kernel
theorem dX10_plain_80 : decode cX10_plain 80 = .ok (.iload_n 1, 1) := by decide +kernel
theorem dX10_plain_81 : decode cX10_plain 81 = .ok (.aaload, 1) := by decide +kernel
theorem dX10_plain_82 : decode cX10_plain 82 = .ok (.iconst 0, 1) := by decide +kernel
theorem dX10_plain_83 : decode cX10_plain 83 = .ok (.iaload, 1) := by decide +kernel
theorem dX10_plain_84 : decode cX10_plain 84 = .ok (.iaload, 1) := by decide +kernel
theorem dX10_plain_85 : decode cX10_plain 85 = .ok (.aload_n 0, 1) := by decide +kernel
theorem dX10_plain_86 : decode cX10_plain 86 = .ok (.getfield 27, 3) := by decide +kernel
theorem dX10_plain_89 : decode cX10_plain 89 = .ok (.aload_n 0, 1) := by decide +kernel
theorem dX10_plain_90 : decode cX10_plain 90 = .ok (.getfield 20, 3) := by decide +kernel
theorem dX10_plain_93 : decode cX10_plain 93 = .ok (.iload_n 1, 1) := by decide +kernel
theorem dX10_plain_94 : decode cX10_plain 94 = .ok (.aaload, 1) := by decide +kernel
theorem dX10_plain_95 : decode cX10_plain 95 = .ok (.iconst 1, 1) := by decide +kernel
theorem dX10_plain_96 : decode cX10_plain 96 = .ok (.iaload, 1) := by decide +kernel
theorem dX10_plain_97 : decode cX10_plain 97 = .ok (.iaload, 1) := by decide +kernel
theorem dX10_plain_98 : decode cX10_plain 98 = .ok (.invokestatic 63, 3) := by decide +kernel
theorem dX10_plain_101 : decode cX10_plain 101 = .ok (.iastore, 1) := by decide +kernel
theorem dX10_plain_102 : decode cX10_plain 102 = .ok (.iinc 1 1, 3) := by decide +kernel
theorem dX10_plain_105 : decode cX10_plain 105 = .ok (.goto (-46), 3) := by decide +kernel
theorem dX10_plain_108 : decode cX10_plain 108 = .ok (.iconst 0, 1) := by decide +kernel
theorem dX10_plain_109 : decode cX10_plain 109 = .ok (.istore_n 1, 1) := by decide +kernel
theorem dX10_plain_110 : decode cX10_plain 110 = .ok (.iload_n 1, 1) := by decide +kernel
theorem dX10_plain_111 : decode cX10_plain 111 = .ok (.aload_n 0, 1) := by decide +kernel
theorem dX10_plain_112 : decode cX10_plain 112 = .ok (.getfield 42, 3) := by decide +kernel
theorem dX10_plain_115 : decode cX10_plain 115 = .ok (.if_icmp .ge 27, 3) := by decide +kernel
theorem dX10_plain_118 : decode cX10_plain 118 = .ok (.aload_n 0, 1) := by decide +kernel
theorem dX10_plain_119 : decode cX10_plain 119 = .ok (.aload_n 0, 1) := by decide +kernel
theorem dX10_plain_120 : decode cX10_plain 120 = .ok (.getfield 53, 3) := by decide +kernel
theorem dX10_plain_123 : decode cX10_plain 123 = .ok (.aload_n 0, 1) := by decide +kernel
theorem dX10_plain_124 : decode cX10_plain 124 = .ok (.iload_n 1, 1) := by decide +kernel
theorem dX10_plain_125 : decode cX10_plain 125 = .ok (.invokevirtual 75, 3) := by decide +kernel
theorem dX10_plain_128 : decode cX10_plain 128 = .ok (.iconst 1, 1) := by decide +kernel
theorem dX10_plain_129 : decode cX10_plain 129 = .ok (.iadd, 1) := by decide +kernel
theorem dX10_plain_130 : decode cX10_plain 130 = .ok (.invokestatic 63, 3) := by decide +kernel
theorem dX10_plain_133 : decode cX10_plain 133 = .ok (.putfield 53, 3) := by decide +kernel
theorem dX10_plain_136 : decode cX10_plain 136 = .ok (.iinc 1 1, 3) := by decide +kernel
theorem dX10_plain_139 : decode cX10_plain 139 = .ok (.goto (-29), 3) := by decide +kernel
theorem dX10_plain_142 : decode cX10_plain 142 = .ok (.iconst 0, 1) := by decide +kernel
theorem dX10_plain_143 : decode cX10_plain 143 = .ok (.istore_n 1, 1) := by decide +kernel
theorem dX10_plain_144 : decode cX10_plain 144 = .ok (.iload_n 1, 1) := by decide +kernel
theorem dX10_plain_145 : decode cX10_plain 145 = .ok (.aload_n 0, 1) := by decide +kernel
theorem dX10_plain_146 : decode cX10_plain 146 = .ok (.getfield 53, 3) := by decide +kernel
theorem dX10_plain_149 : decode cX10_plain 149 = .ok (.if_icmp .ge 137, 3) := by decide +kernel
theorem dX10_plain_152 : decode cX10_plain 152 = .ok (.bipush 28, 2) := by decide +kernel
theorem dX10_plain_154 : decode cX10_plain 154 = .ok (.newarray .int, 2) := by decide +kernel
theorem dX10_plain_156 : decode cX10_plain 156 = .ok (.astore_n 2, 1) := by decide +kernel
theorem dX10_plain_157 : decode cX10_plain 157 = .ok (.iconst 0, 1) := by decide +kernel
theorem dX10_plain_158 : decode cX10_plain 158 = .ok (.istore_n 3, 1) := by decide +kernel
theorem dX10_plain_159 : decode cX10_plain 159 = .ok (.iconst 0, 1) := by decide +kernel
theorem dX10_plain_160 : decode cX10_plain 160 = .ok (.istore 4, 2) := by decide +kernel
theorem dX10_plain_162 : decode cX10_plain 162 = .ok (.iload 4, 2) := by decide +kernel
theorem dX10_plain_164 : decode cX10_plain 164 = .ok (.aload_n 0, 1) := by decide +kernel
theorem dX10_plain_165 : decode cX10_plain 165 = .ok (.getfield 42, 3) := by decide +kernel
theorem dX10_plain_168 : decode cX10_plain 168 = .ok (.if_icmp .ge 27, 3) := by decide +kernel
theorem dX10_plain_171 : decode cX10_plain 171 = .ok (.aload_n 0, 1) := by decide +kernel
theorem dX10_plain_172 : decode cX10_plain 172 = .ok (.iload 4, 2) := by decide +kernel
theorem dX10_plain_174 : decode cX10_plain 174 = .ok (.invokevirtual 75, 3) := by decide +kernel
theorem dX10_plain_177 : decode cX10_plain 177 = .ok (.iload_n 1, 1) := by decide +kernel
theorem dX10_plain_178 : decode cX10_plain 178 = .ok (.if_icmp .ne 11, 3) := by decide +kernel
theorem dX10_plain_181 : decode cX10_plain 181 = .ok (.aload_n 2, 1) := by decide +kernel
theorem dX10_plain_182 : decode cX10_plain 182 = .ok (.iload_n 3, 1) := by decide +kernel
theorem dX10_plain_183 : decode cX10_plain 183 = .ok (.iinc 3 1, 3) := by decide +kernel
theorem dX10_plain_186 : decode cX10_plain 186 = .ok (.iload 4, 2) := by decide +kernel
theorem dX10_plain_188 : decode cX10_plain 188 = .ok (.iastore, 1) := by decide +kernel
theorem dX10_plain_189 : decode cX10_plain 189 = .ok (.iinc 4 1, 3) := by decide +kernel
theorem dX10_plain_192 : decode cX10_plain 192 = .ok (.goto (-30), 3) := by decide +kernel
theorem dX10_plain_195 : decode cX10_plain 195 = .ok (.iconst 0, 1) := by decide +kernel
theorem dX10_plain_196 : decode cX10_plain 196 = .ok (.istore 4, 2) := by decide +kernel
theorem dX10_plain_198 : decode cX10_plain 198 = .ok (.iload 4, 2) := by decide +kernel
theorem dX10_plain_200 : decode cX10_plain 200 = .ok (.aload_n 0, 1) := by decide +kernel
theorem dX10_plain_201 : decode cX10_plain 201 = .ok (.getfield 46, 3) := by decide +kernel
theorem dX10_plain_204 : decode cX10_plain 204 = .ok (.if_icmp .ge 39, 3) := by decide +kernel
theorem dX10_plain_207 : decode cX10_plain 207 = .ok (.aload_n 0, 1) := by decide +kernel
theorem dX10_plain_208 : decode cX10_plain 208 = .ok (.iload 4, 2) := by decide +kernel
theorem dX10_plain_210 : decode cX10_plain 210 = .ok (.invokevirtual 72, 3) := by decide +kernel
theorem dX10_plain_213 : decode cX10_plain 213 = .ok (.iload_n 1, 1) := by decide +kernel
theorem dX10_plain_214 : decode cX10_plain 214 = .ok (.if_icmp .ne 23, 3) := by decide +kernel
theorem dX10_plain_217 : decode cX10_plain 217 = .ok (.aload_n 0, 1) := by decide +kernel
theorem dX10_plain_218 : decode cX10_plain 218 = .ok (.iload 4, 2) := by decide +kernel
theorem dX10_plain_220 : decode cX10_plain 220 = .ok (.invokevirtual 80, 3) := by decide +kernel
theorem dX10_plain_223 : decode cX10_plain 223 = .ok (.ifCond .lt 14, 3) := by decide +kernel
theorem dX10_plain_226 : decode cX10_plain 226 = .ok (.aload_n 2, 1) := by decide +kernel
theorem dX10_plain_227 : decode cX10_plain 227 = .ok (.iload_n 3, 1) := by decide +kernel
theorem dX10_plain_228 : decode cX10_plain 228 = .ok (.iinc 3 1, 3) := by decide +kernel
theorem dX10_plain_231 : decode cX10_plain 231 = .ok (.bipush 16, 2) := by decide +kernel
theorem dX10_plain_233 : decode cX10_plain 233 = .ok (.iload 4, 2) := by decide +kernel
theorem dX10_plain_235 : decode cX10_plain 235 = .ok (.iadd, 1) := by decide +kernel
theorem dX10_plain_236 : decode cX10_plain 236 = .ok (.iastore, 1) := by decide +kernel
theorem dX10_plain_237 : decode cX10_plain 237 = .ok (.iinc 4 1, 3) := by decide +kernel
theorem dX10_plain_240 : decode cX10_plain 240 = .ok (.goto (-42), 3) := by decide +kernel
theorem dX10_plain_243 : decode cX10_plain 243 = .ok (.aload_n 0, 1) := by decide +kernel
theorem dX10_plain_244 : decode cX10_plain 244 = .ok (.getfield 24, 3) := by decide +kernel
theorem dX10_plain_247 : decode cX10_plain 247 = .ok (.iload_n 1, 1) := by decide +kernel
theorem dX10_plain_248 : decode cX10_plain 248 = .ok (.iload_n 3, 1) := by decide +kernel
theorem dX10_plain_249 : decode cX10_plain 249 = .ok (.newarray .int, 2) := by decide +kernel
theorem dX10_plain_251 : decode cX10_plain 251 = .ok (.aastore, 1) := by decide +kernel
theorem dX10_plain_252 : decode cX10_plain 252 = .ok (.iconst 0, 1) := by decide +kernel
theorem dX10_plain_253 : decode cX10_plain 253 = .ok (.istore 4, 2) := by decide +kernel
theorem dX10_plain_255 : decode cX10_plain 255 = .ok (.iload 4, 2) := by decide +kernel
theorem dX10_plain_257 : decode cX10_plain 257 = .ok (.iload_n 3, 1) := by decide +kernel
theorem dX10_plain_258 : decode cX10_plain 258 = .ok (.if_icmp .ge 22, 3) := by decide +kernel
theorem dX10_plain_261 : decode cX10_plain 261 = .ok (.aload_n 0, 1) := by decide +kernel
theorem dX10_plain_262 : decode cX10_plain 262 = .ok (.getfield 24, 3) := by decide +kernel
theorem dX10_plain_265 : decode cX10_plain 265 = .ok (.iload_n 1, 1) := by decide +kernel
theorem dX10_plain_266 : decode cX10_plain 266 = .ok (.aaload, 1) := by decide +kernel
theorem dX10_plain_267 : decode cX10_plain 267 = .ok (.iload 4, 2) := by decide +kernel
theorem dX10_plain_269 : decode cX10_plain 269 = .ok (.aload_n 2, 1) := by decide +kernel
theorem dX10_plain_270 : decode cX10_plain 270 = .ok (.iload 4, 2) := by decide +kernel
theorem dX10_plain_272 : decode cX10_plain 272 = .ok (.iaload, 1) := by decide +kernel
theorem dX10_plain_273 : decode cX10_plain 273 = .ok (.iastore, 1) := by decide +kernel
theorem dX10_plain_274 : decode cX10_plain 274 = .ok (.iinc 4 1, 3) := by decide +kernel
theorem dX10_plain_277 : decode cX10_plain 277 = .ok (.goto (-22), 3) := by decide +kernel
theorem dX10_plain_280 : decode cX10_plain 280 = .ok (.iinc 1 1, 3) := by decide +kernel
theorem dX10_plain_283 : decode cX10_plain 283 = .ok (.goto (-139), 3) := by decide +kernel
theorem dX10_plain_286 : decode cX10_plain 286 = .ok (.return_, 1) := by decide +kernel
theorem dX10_place_0 : decode cX10_place 0 = .ok (.iconst 0, 1) := by decide +kernel
theorem dX10_place_1 : decode cX10_place 1 = .ok (.istore_n 3, 1) := by decide +kernel
theorem dX10_place_2 : decode cX10_place 2 = .ok (.iload_n 3, 1) := by decide +kernel
theorem dX10_place_3 : decode cX10_place 3 = .ok (.aload_n 0, 1) := by decide +kernel
theorem dX10_place_4 : decode cX10_place 4 = .ok (.getfield 24, 3) := by decide +kernel
theorem dX10_place_7 : decode cX10_place 7 = .ok (.iload_n 1, 1) := by decide +kernel
theorem dX10_place_8 : decode cX10_place 8 = .ok (.aaload, 1) := by decide +kernel
theorem dX10_place_9 : decode cX10_place 9 = .ok (.arraylength, 1) := by decide +kernel
theorem dX10_place_10 : decode cX10_place 10 = .ok (.if_icmp .ge 23, 3) := by decide +kernel
theorem dX10_place_13 : decode cX10_place 13 = .ok (.aload_n 0, 1) := by decide +kernel
theorem dX10_place_14 : decode cX10_place 14 = .ok (.getfield 24, 3) := by decide +kernel
theorem dX10_place_17 : decode cX10_place 17 = .ok (.iload_n 1, 1) := by decide +kernel
theorem dX10_place_18 : decode cX10_place 18 = .ok (.aaload, 1) := by decide +kernel
theorem dX10_place_19 : decode cX10_place 19 = .ok (.iload_n 3, 1) := by decide +kernel
theorem dX10_place_20 : decode cX10_place 20 = .ok (.iaload, 1) := by decide +kernel
theorem dX10_place_21 : decode cX10_place 21 = .ok (.iload_n 2, 1) := by decide +kernel
theorem dX10_place_22 : decode cX10_place 22 = .ok (.if_icmp .ne 5, 3) := by decide +kernel
theorem dX10_place_25 : decode cX10_place 25 = .ok (.iload_n 3, 1) := by decide +kernel
theorem dX10_place_26 : decode cX10_place 26 = .ok (.ireturn, 1) := by decide +kernel
theorem dX10_place_27 : decode cX10_place 27 = .ok (.iinc 3 1, 3) := by decide +kernel
theorem dX10_place_30 : decode cX10_place 30 = .ok (.goto (-28), 3) := by decide +kernel
theorem dX10_place_33 : decode cX10_place 33 = .ok (.iconst (-1), 1) := by decide +kernel
theorem dX10_place_34 : decode cX10_place 34 = .ok (.ireturn, 1) := by decide +kernel
theorem dX10_box_0 : decode cX10_box 0 = .ok (.aload_n 0, 1) := by decide +kernel
theorem dX10_box_1 : decode cX10_box 1 = .ok (.getfield 20, 3) := by decide +kernel
theorem dX10_box_4 : decode cX10_box 4 = .ok (.iload_n 1, 1) := by decide +kernel
theorem dX10_box_5 : decode cX10_box 5 = .ok (.aaload, 1) := by decide +kernel
theorem dX10_box_6 : decode cX10_box 6 = .ok (.iload_n 2, 1) := by decide +kernel
theorem dX10_box_7 : decode cX10_box 7 = .ok (.iaload, 1) := by decide +kernel
theorem dX10_box_8 : decode cX10_box 8 = .ok (.istore_n 3, 1) := by decide +kernel
theorem dX10_box_9 : decode cX10_box 9 = .ok (.aload_n 0, 1) := by decide +kernel
theorem dX10_box_10 : decode cX10_box 10 = .ok (.iload_n 3, 1) := by decide +kernel
theorem dX10_box_11 : decode cX10_box 11 = .ok (.invokevirtual 75, 3) := by decide +kernel
theorem dX10_box_14 : decode cX10_box 14 = .ok (.aload_n 0, 1) := by decide +kernel
theorem dX10_box_15 : decode cX10_box 15 = .ok (.iload_n 1, 1) := by decide +kernel
theorem dX10_box_16 : decode cX10_box 16 = .ok (.invokevirtual 72, 3) := by decide +kernel
theorem dX10_box_19 : decode cX10_box 19 = .ok (.if_icmp .ge 10, 3) := by decide +kernel
theorem dX10_box_22 : decode cX10_box 22 = .ok (.bipush 16, 2) := by decide +kernel
theorem dX10_box_24 : decode cX10_box 24 = .ok (.iload_n 1, 1) := by decide +kernel
theorem dX10_box_25 : decode cX10_box 25 = .ok (.iadd, 1) := by decide +kernel
theorem dX10_box_26 : decode cX10_box 26 = .ok (.goto 4, 3) := by decide +kernel
theorem dX10_box_29 : decode cX10_box 29 = .ok (.iload_n 3, 1) := by decide +kernel
theorem dX10_box_30 : decode cX10_box 30 = .ok (.ireturn, 1) := by decide +kernel
theorem dX10_at_0 : decode cX10_at 0 = .ok (.aload_n 0, 1) := by decide +kernel
theorem dX10_at_1 : decode cX10_at 1 = .ok (.aload_n 0, 1) := by decide +kernel
theorem dX10_at_2 : decode cX10_at 2 = .ok (.iload_n 1, 1) := by decide +kernel
theorem dX10_at_3 : decode cX10_at 3 = .ok (.invokevirtual 72, 3) := by decide +kernel
theorem dX10_at_6 : decode cX10_at 6 = .ok (.aload_n 0, 1) := by decide +kernel
theorem dX10_at_7 : decode cX10_at 7 = .ok (.iload_n 1, 1) := by decide +kernel
theorem dX10_at_8 : decode cX10_at 8 = .ok (.iload_n 2, 1) := by decide +kernel
theorem dX10_at_9 : decode cX10_at 9 = .ok (.invokevirtual 83, 3) := by decide +kernel
theorem dX10_at_12 : decode cX10_at 12 = .ok (.invokevirtual 86, 3) := by decide +kernel
theorem dX10_at_15 : decode cX10_at 15 = .ok (.ireturn, 1) := by decide +kernel
theorem dX10_middle_0 : decode cX10_middle 0 = .ok (.aload_n 0, 1) := by decide +kernel
theorem dX10_middle_1 : decode cX10_middle 1 = .ok (.iload_n 1, 1) := by decide +kernel
theorem dX10_middle_2 : decode cX10_middle 2 = .ok (.iconst 0, 1) := by decide +kernel
theorem dX10_middle_3 : decode cX10_middle 3 = .ok (.invokevirtual 89, 3) := by decide +kernel
theorem dX10_middle_6 : decode cX10_middle 6 = .ok (.aload_n 0, 1) := by decide +kernel
theorem dX10_middle_7 : decode cX10_middle 7 = .ok (.iload_n 1, 1) := by decide +kernel
theorem dX10_middle_8 : decode cX10_middle 8 = .ok (.iconst 1, 1) := by decide +kernel
theorem dX10_middle_9 : decode cX10_middle 9 = .ok (.invokevirtual 89, 3) := by decide +kernel
theorem dX10_middle_12 : decode cX10_middle 12 = .ok (.iadd, 1) := by decide +kernel
theorem dX10_middle_13 : decode cX10_middle 13 = .ok (.ireturn, 1) := by decide +kernel
theorem dX10_inRow_0 : decode cX10_inRow 0 = .ok (.iconst 0, 1) := by decide +kernel
theorem dX10_inRow_1 : decode cX10_inRow 1 = .ok (.istore_n 2, 1) := by decide +kernel
theorem dX10_inRow_2 : decode cX10_inRow 2 = .ok (.iconst 0, 1) := by decide +kernel
theorem dX10_inRow_3 : decode cX10_inRow 3 = .ok (.istore_n 3, 1) := by decide +kernel
theorem dX10_inRow_4 : decode cX10_inRow 4 = .ok (.iload_n 3, 1) := by decide +kernel
theorem dX10_inRow_5 : decode cX10_inRow 5 = .ok (.aload_n 0, 1) := by decide +kernel
theorem dX10_inRow_6 : decode cX10_inRow 6 = .ok (.getfield 46, 3) := by decide +kernel
theorem dX10_inRow_9 : decode cX10_inRow 9 = .ok (.if_icmp .ge 168, 3) := by decide +kernel
theorem dX10_inRow_12 : decode cX10_inRow 12 = .ok (.iload_n 3, 1) := by decide +kernel
theorem dX10_inRow_13 : decode cX10_inRow 13 = .ok (.iconst 1, 1) := by decide +kernel
theorem dX10_inRow_14 : decode cX10_inRow 14 = .ok (.iadd, 1) := by decide +kernel
theorem dX10_inRow_15 : decode cX10_inRow 15 = .ok (.istore 4, 2) := by decide +kernel
theorem dX10_inRow_17 : decode cX10_inRow 17 = .ok (.iload 4, 2) := by decide +kernel
theorem dX10_inRow_19 : decode cX10_inRow 19 = .ok (.aload_n 0, 1) := by decide +kernel
theorem dX10_inRow_20 : decode cX10_inRow 20 = .ok (.getfield 46, 3) := by decide +kernel
theorem dX10_inRow_23 : decode cX10_inRow 23 = .ok (.if_icmp .ge 148, 3) := by decide +kernel
theorem dX10_inRow_26 : decode cX10_inRow 26 = .ok (.aload_n 0, 1) := by decide +kernel
theorem dX10_inRow_27 : decode cX10_inRow 27 = .ok (.iload_n 3, 1) := by decide +kernel
theorem dX10_inRow_28 : decode cX10_inRow 28 = .ok (.invokevirtual 72, 3) := by decide +kernel
theorem dX10_inRow_31 : decode cX10_inRow 31 = .ok (.iload_n 1, 1) := by decide +kernel
theorem dX10_inRow_32 : decode cX10_inRow 32 = .ok (.if_icmp .ne 133, 3) := by decide +kernel
theorem dX10_inRow_35 : decode cX10_inRow 35 = .ok (.aload_n 0, 1) := by decide +kernel
theorem dX10_inRow_36 : decode cX10_inRow 36 = .ok (.iload 4, 2) := by decide +kernel
theorem dX10_inRow_38 : decode cX10_inRow 38 = .ok (.invokevirtual 72, 3) := by decide +kernel
theorem dX10_inRow_41 : decode cX10_inRow 41 = .ok (.iload_n 1, 1) := by decide +kernel
theorem dX10_inRow_42 : decode cX10_inRow 42 = .ok (.if_icmp .eq 6, 3) := by decide +kernel
theorem dX10_inRow_45 : decode cX10_inRow 45 = .ok (.goto 120, 3) := by decide +kernel
theorem dX10_inRow_48 : decode cX10_inRow 48 = .ok (.aload_n 0, 1) := by decide +kernel
theorem dX10_inRow_49 : decode cX10_inRow 49 = .ok (.iload_n 3, 1) := by decide +kernel
theorem dX10_inRow_50 : decode cX10_inRow 50 = .ok (.iconst 0, 1) := by decide +kernel
theorem dX10_inRow_51 : decode cX10_inRow 51 = .ok (.invokevirtual 89, 3) := by decide +kernel
theorem dX10_inRow_54 : decode cX10_inRow 54 = .ok (.aload_n 0, 1) := by decide +kernel
theorem dX10_inRow_55 : decode cX10_inRow 55 = .ok (.iload_n 3, 1) := by decide +kernel
theorem dX10_inRow_56 : decode cX10_inRow 56 = .ok (.iconst 1, 1) := by decide +kernel
theorem dX10_inRow_57 : decode cX10_inRow 57 = .ok (.invokevirtual 89, 3) := by decide +kernel
theorem dX10_inRow_60 : decode cX10_inRow 60 = .ok (.invokestatic 92, 3) := by decide +kernel
theorem dX10_inRow_63 : decode cX10_inRow 63 = .ok (.istore 5, 2) := by decide +kernel
theorem dX10_inRow_65 : decode cX10_inRow 65 = .ok (.aload_n 0, 1) := by decide +kernel
theorem dX10_inRow_66 : decode cX10_inRow 66 = .ok (.iload_n 3, 1) := by decide +kernel
theorem dX10_inRow_67 : decode cX10_inRow 67 = .ok (.iconst 0, 1) := by decide +kernel
theorem dX10_inRow_68 : decode cX10_inRow 68 = .ok (.invokevirtual 89, 3) := by decide +kernel
theorem dX10_inRow_71 : decode cX10_inRow 71 = .ok (.aload_n 0, 1) := by decide +kernel
theorem dX10_inRow_72 : decode cX10_inRow 72 = .ok (.iload_n 3, 1) := by decide +kernel
theorem dX10_inRow_73 : decode cX10_inRow 73 = .ok (.iconst 1, 1) := by decide +kernel
theorem dX10_inRow_74 : decode cX10_inRow 74 = .ok (.invokevirtual 89, 3) := by decide +kernel
theorem dX10_inRow_77 : decode cX10_inRow 77 = .ok (.invokestatic 63, 3) := by decide +kernel
