theorem dX11_join_27 : decode cX11_join 27 = .ok (.invokevirtual 186, 3) := by decide +kernel
theorem dX11_join_30 : decode cX11_join 30 = .ok (.lstore_n 3, 1) := by decide +kernel
theorem dX11_join_31 : decode cX11_join 31 = .ok (.aload_n 0, 1) := by decide +kernel
theorem dX11_join_32 : decode cX11_join 32 = .ok (.getfield 38, 3) := by decide +kernel
theorem dX11_join_35 : decode cX11_join 35 = .ok (.lload_n 3, 1) := by decide +kernel
theorem dX11_join_36 : decode cX11_join 36 = .ok (.invokevirtual 316, 3) := by decide +kernel
theorem dX11_join_39 : decode cX11_join 39 = .ok (.ifCond .ne 14, 3) := by decide +kernel
theorem dX11_join_42 : decode cX11_join 42 = .ok (.new 81, 3) := by decide +kernel
theorem dX11_join_45 : decode cX11_join 45 = .ok (.dup, 1) := by decide +kernel
theorem dX11_join_46 : decode cX11_join 46 = .ok (.ldc_w 320, 3) := by decide +kernel
theorem dX11_join_49 : decode cX11_join 49 = .ok (.invokespecial 85, 3) := by decide +kernel
theorem dX11_join_52 : decode cX11_join 52 = .ok (.athrow, 1) := by decide +kernel
theorem dX11_join_53 : decode cX11_join 53 = .ok (.aload_n 0, 1) := by decide +kernel
theorem dX11_join_54 : decode cX11_join 54 = .ok (.getfield 48, 3) := by decide +kernel
theorem dX11_join_57 : decode cX11_join 57 = .ok (.aload_n 0, 1) := by decide +kernel
theorem dX11_join_58 : decode cX11_join 58 = .ok (.getfield 38, 3) := by decide +kernel
theorem dX11_join_61 : decode cX11_join 61 = .ok (.invokevirtual 109, 3) := by decide +kernel
theorem dX11_join_64 : decode cX11_join 64 = .ok (.aload_n 0, 1) := by decide +kernel
theorem dX11_join_65 : decode cX11_join 65 = .ok (.getfield 10, 3) := by decide +kernel
theorem dX11_join_68 : decode cX11_join 68 = .ok (.iconst 0, 1) := by decide +kernel
theorem dX11_join_69 : decode cX11_join 69 = .ok (.putfield 77, 3) := by decide +kernel
theorem dX11_join_72 : decode cX11_join 72 = .ok (.aload_n 0, 1) := by decide +kernel
theorem dX11_join_73 : decode cX11_join 73 = .ok (.getfield 38, 3) := by decide +kernel
theorem dX11_join_76 : decode cX11_join 76 = .ok (.lload_n 3, 1) := by decide +kernel
theorem dX11_join_77 : decode cX11_join 77 = .ok (.iload_n 1, 1) := by decide +kernel
theorem dX11_join_78 : decode cX11_join 78 = .ok (.iload_n 2, 1) := by decide +kernel
theorem dX11_join_79 : decode cX11_join 79 = .ok (.iconst 0, 1) := by decide +kernel
theorem dX11_join_80 : decode cX11_join 80 = .ok (.invokevirtual 322, 3) := by decide +kernel
theorem dX11_join_83 : decode cX11_join 83 = .ok (.ireturn, 1) := by decide +kernel
theorem dX11_buySeat_0 : decode cX11_buySeat 0 = .ok (.aload_n 0, 1) := by decide +kernel
theorem dX11_buySeat_1 : decode cX11_buySeat 1 = .ok (.iload_n 1, 1) := by decide +kernel
theorem dX11_buySeat_2 : decode cX11_buySeat 2 = .ok (.invokevirtual 199, 3) := by decide +kernel
theorem dX11_buySeat_5 : decode cX11_buySeat 5 = .ok (.astore 4, 2) := by decide +kernel
theorem dX11_buySeat_7 : decode cX11_buySeat 7 = .ok (.aload_n 0, 1) := by decide +kernel
theorem dX11_buySeat_8 : decode cX11_buySeat 8 = .ok (.iload_n 2, 1) := by decide +kernel
theorem dX11_buySeat_9 : decode cX11_buySeat 9 = .ok (.iload_n 3, 1) := by decide +kernel
theorem dX11_buySeat_10 : decode cX11_buySeat 10 = .ok (.invokevirtual 166, 3) := by decide +kernel
theorem dX11_buySeat_13 : decode cX11_buySeat 13 = .ok (.astore 5, 2) := by decide +kernel
theorem dX11_buySeat_15 : decode cX11_buySeat 15 = .ok (.aload_n 0, 1) := by decide +kernel
theorem dX11_buySeat_16 : decode cX11_buySeat 16 = .ok (.getfield 38, 3) := by decide +kernel
theorem dX11_buySeat_19 : decode cX11_buySeat 19 = .ok (.aload 4, 2) := by decide +kernel
theorem dX11_buySeat_21 : decode cX11_buySeat 21 = .ok (.aload 5, 2) := by decide +kernel
theorem dX11_buySeat_23 : decode cX11_buySeat 23 = .ok (.iload_n 3, 1) := by decide +kernel
theorem dX11_buySeat_24 : decode cX11_buySeat 24 = .ok (.invokevirtual 237, 3) := by decide +kernel
theorem dX11_buySeat_27 : decode cX11_buySeat 27 = .ok (.invokestatic 326, 3) := by decide +kernel
theorem dX11_buySeat_30 : decode cX11_buySeat 30 = .ok (.aload_n 0, 1) := by decide +kernel
theorem dX11_buySeat_31 : decode cX11_buySeat 31 = .ok (.getfield 48, 3) := by decide +kernel
theorem dX11_buySeat_34 : decode cX11_buySeat 34 = .ok (.aload_n 0, 1) := by decide +kernel
theorem dX11_buySeat_35 : decode cX11_buySeat 35 = .ok (.getfield 38, 3) := by decide +kernel
theorem dX11_buySeat_38 : decode cX11_buySeat 38 = .ok (.invokevirtual 109, 3) := by decide +kernel
theorem dX11_buySeat_41 : decode cX11_buySeat 41 = .ok (.aload_n 0, 1) := by decide +kernel
theorem dX11_buySeat_42 : decode cX11_buySeat 42 = .ok (.getfield 38, 3) := by decide +kernel
theorem dX11_buySeat_45 : decode cX11_buySeat 45 = .ok (.aload 4, 2) := by decide +kernel
theorem dX11_buySeat_47 : decode cX11_buySeat 47 = .ok (.aload 5, 2) := by decide +kernel
theorem dX11_buySeat_49 : decode cX11_buySeat 49 = .ok (.iload_n 3, 1) := by decide +kernel
theorem dX11_buySeat_50 : decode cX11_buySeat 50 = .ok (.invokevirtual 329, 3) := by decide +kernel
theorem dX11_buySeat_53 : decode cX11_buySeat 53 = .ok (.ireturn, 1) := by decide +kernel
theorem dX11_leaveSeat_0 : decode cX11_leaveSeat 0 = .ok (.aload_n 0, 1) := by decide +kernel
theorem dX11_leaveSeat_1 : decode cX11_leaveSeat 1 = .ok (.iload_n 1, 1) := by decide +kernel
theorem dX11_leaveSeat_2 : decode cX11_leaveSeat 2 = .ok (.invokevirtual 199, 3) := by decide +kernel
theorem dX11_leaveSeat_5 : decode cX11_leaveSeat 5 = .ok (.astore_n 2, 1) := by decide +kernel
theorem dX11_leaveSeat_6 : decode cX11_leaveSeat 6 = .ok (.aload_n 2, 1) := by decide +kernel
theorem dX11_leaveSeat_7 : decode cX11_leaveSeat 7 = .ok (.invokestatic 253, 3) := by decide +kernel
theorem dX11_leaveSeat_10 : decode cX11_leaveSeat 10 = .ok (.aload_n 0, 1) := by decide +kernel
theorem dX11_leaveSeat_11 : decode cX11_leaveSeat 11 = .ok (.getfield 48, 3) := by decide +kernel
theorem dX11_leaveSeat_14 : decode cX11_leaveSeat 14 = .ok (.aload_n 0, 1) := by decide +kernel
theorem dX11_leaveSeat_15 : decode cX11_leaveSeat 15 = .ok (.getfield 38, 3) := by decide +kernel
theorem dX11_leaveSeat_18 : decode cX11_leaveSeat 18 = .ok (.invokevirtual 109, 3) := by decide +kernel
theorem dX11_leaveSeat_21 : decode cX11_leaveSeat 21 = .ok (.aload_n 2, 1) := by decide +kernel
theorem dX11_leaveSeat_22 : decode cX11_leaveSeat 22 = .ok (.getfield 224, 3) := by decide +kernel
theorem dX11_leaveSeat_25 : decode cX11_leaveSeat 25 = .ok (.istore_n 3, 1) := by decide +kernel
theorem dX11_leaveSeat_26 : decode cX11_leaveSeat 26 = .ok (.aload_n 0, 1) := by decide +kernel
theorem dX11_leaveSeat_27 : decode cX11_leaveSeat 27 = .ok (.getfield 38, 3) := by decide +kernel
theorem dX11_leaveSeat_30 : decode cX11_leaveSeat 30 = .ok (.aload_n 2, 1) := by decide +kernel
theorem dX11_leaveSeat_31 : decode cX11_leaveSeat 31 = .ok (.invokevirtual 332, 3) := by decide +kernel
theorem dX11_leaveSeat_34 : decode cX11_leaveSeat 34 = .ok (.iload_n 3, 1) := by decide +kernel
theorem dX11_leaveSeat_35 : decode cX11_leaveSeat 35 = .ok (.ireturn, 1) := by decide +kernel
theorem dX11_sellWeight_0 : decode cX11_sellWeight 0 = .ok (.aload_n 0, 1) := by decide +kernel
theorem dX11_sellWeight_1 : decode cX11_sellWeight 1 = .ok (.iload_n 1, 1) := by decide +kernel
theorem dX11_sellWeight_2 : decode cX11_sellWeight 2 = .ok (.invokevirtual 199, 3) := by decide +kernel
theorem dX11_sellWeight_5 : decode cX11_sellWeight 5 = .ok (.astore 4, 2) := by decide +kernel
theorem dX11_sellWeight_7 : decode cX11_sellWeight 7 = .ok (.aload_n 0, 1) := by decide +kernel
theorem dX11_sellWeight_8 : decode cX11_sellWeight 8 = .ok (.iload_n 2, 1) := by decide +kernel
theorem dX11_sellWeight_9 : decode cX11_sellWeight 9 = .ok (.invokevirtual 199, 3) := by decide +kernel
theorem dX11_sellWeight_12 : decode cX11_sellWeight 12 = .ok (.astore 5, 2) := by decide +kernel
theorem dX11_sellWeight_14 : decode cX11_sellWeight 14 = .ok (.iload_n 1, 1) := by decide +kernel
theorem dX11_sellWeight_15 : decode cX11_sellWeight 15 = .ok (.iload_n 2, 1) := by decide +kernel
theorem dX11_sellWeight_16 : decode cX11_sellWeight 16 = .ok (.invokestatic 241, 3) := by decide +kernel
theorem dX11_sellWeight_19 : decode cX11_sellWeight 19 = .ok (.iload_n 3, 1) := by decide +kernel
theorem dX11_sellWeight_20 : decode cX11_sellWeight 20 = .ok (.iconst 1, 1) := by decide +kernel
theorem dX11_sellWeight_21 : decode cX11_sellWeight 21 = .ok (.bipush 50, 2) := by decide +kernel
theorem dX11_sellWeight_23 : decode cX11_sellWeight 23 = .ok (.invokestatic 91, 3) := by decide +kernel
theorem dX11_sellWeight_26 : decode cX11_sellWeight 26 = .ok (.aload_n 0, 1) := by decide +kernel
theorem dX11_sellWeight_27 : decode cX11_sellWeight 27 = .ok (.getfield 38, 3) := by decide +kernel
theorem dX11_sellWeight_30 : decode cX11_sellWeight 30 = .ok (.aload 4, 2) := by decide +kernel
theorem dX11_sellWeight_32 : decode cX11_sellWeight 32 = .ok (.aload 5, 2) := by decide +kernel
theorem dX11_sellWeight_34 : decode cX11_sellWeight 34 = .ok (.iload_n 3, 1) := by decide +kernel
theorem dX11_sellWeight_35 : decode cX11_sellWeight 35 = .ok (.invokevirtual 245, 3) := by decide +kernel
theorem dX11_sellWeight_38 : decode cX11_sellWeight 38 = .ok (.invokestatic 326, 3) := by decide +kernel
theorem dX11_sellWeight_41 : decode cX11_sellWeight 41 = .ok (.aload_n 0, 1) := by decide +kernel
theorem dX11_sellWeight_42 : decode cX11_sellWeight 42 = .ok (.getfield 48, 3) := by decide +kernel
theorem dX11_sellWeight_45 : decode cX11_sellWeight 45 = .ok (.aload_n 0, 1) := by decide +kernel
theorem dX11_sellWeight_46 : decode cX11_sellWeight 46 = .ok (.getfield 38, 3) := by decide +kernel
theorem dX11_sellWeight_49 : decode cX11_sellWeight 49 = .ok (.invokevirtual 109, 3) := by decide +kernel
theorem dX11_sellWeight_52 : decode cX11_sellWeight 52 = .ok (.aload_n 0, 1) := by decide +kernel
theorem dX11_sellWeight_53 : decode cX11_sellWeight 53 = .ok (.getfield 38, 3) := by decide +kernel
theorem dX11_sellWeight_56 : decode cX11_sellWeight 56 = .ok (.aload 4, 2) := by decide +kernel
theorem dX11_sellWeight_58 : decode cX11_sellWeight 58 = .ok (.aload 5, 2) := by decide +kernel
theorem dX11_sellWeight_60 : decode cX11_sellWeight 60 = .ok (.iload_n 3, 1) := by decide +kernel
theorem dX11_sellWeight_61 : decode cX11_sellWeight 61 = .ok (.invokevirtual 335, 3) := by decide +kernel
theorem dX11_sellWeight_64 : decode cX11_sellWeight 64 = .ok (.ireturn, 1) := by decide +kernel
theorem dX11_swapSeats_0 : decode cX11_swapSeats 0 = .ok (.aload_n 0, 1) := by decide +kernel
theorem dX11_swapSeats_1 : decode cX11_swapSeats 1 = .ok (.iload_n 1, 1) := by decide +kernel
theorem dX11_swapSeats_2 : decode cX11_swapSeats 2 = .ok (.invokevirtual 199, 3) := by decide +kernel
theorem dX11_swapSeats_5 : decode cX11_swapSeats 5 = .ok (.astore_n 3, 1) := by decide +kernel
theorem dX11_swapSeats_6 : decode cX11_swapSeats 6 = .ok (.aload_n 0, 1) := by decide +kernel
theorem dX11_swapSeats_7 : decode cX11_swapSeats 7 = .ok (.iload_n 2, 1) := by decide +kernel
theorem dX11_swapSeats_8 : decode cX11_swapSeats 8 = .ok (.invokevirtual 199, 3) := by decide +kernel
theorem dX11_swapSeats_11 : decode cX11_swapSeats 11 = .ok (.astore 4, 2) := by decide +kernel
theorem dX11_swapSeats_13 : decode cX11_swapSeats 13 = .ok (.iload_n 1, 1) := by decide +kernel
theorem dX11_swapSeats_14 : decode cX11_swapSeats 14 = .ok (.iload_n 2, 1) := by decide +kernel
theorem dX11_swapSeats_15 : decode cX11_swapSeats 15 = .ok (.invokestatic 241, 3) := by decide +kernel
theorem dX11_swapSeats_18 : decode cX11_swapSeats 18 = .ok (.aload_n 0, 1) := by decide +kernel
theorem dX11_swapSeats_19 : decode cX11_swapSeats 19 = .ok (.getfield 38, 3) := by decide +kernel
theorem dX11_swapSeats_22 : decode cX11_swapSeats 22 = .ok (.aload_n 3, 1) := by decide +kernel
theorem dX11_swapSeats_23 : decode cX11_swapSeats 23 = .ok (.aload 4, 2) := by decide +kernel
theorem dX11_swapSeats_25 : decode cX11_swapSeats 25 = .ok (.invokevirtual 249, 3) := by decide +kernel
theorem dX11_swapSeats_28 : decode cX11_swapSeats 28 = .ok (.invokestatic 326, 3) := by decide +kernel
theorem dX11_swapSeats_31 : decode cX11_swapSeats 31 = .ok (.aload_n 0, 1) := by decide +kernel
theorem dX11_swapSeats_32 : decode cX11_swapSeats 32 = .ok (.getfield 48, 3) := by decide +kernel
theorem dX11_swapSeats_35 : decode cX11_swapSeats 35 = .ok (.aload_n 0, 1) := by decide +kernel
theorem dX11_swapSeats_36 : decode cX11_swapSeats 36 = .ok (.getfield 38, 3) := by decide +kernel
theorem dX11_swapSeats_39 : decode cX11_swapSeats 39 = .ok (.invokevirtual 109, 3) := by decide +kernel
theorem dX11_swapSeats_42 : decode cX11_swapSeats 42 = .ok (.aload_n 0, 1) := by decide +kernel
theorem dX11_swapSeats_43 : decode cX11_swapSeats 43 = .ok (.getfield 38, 3) := by decide +kernel
theorem dX11_swapSeats_46 : decode cX11_swapSeats 46 = .ok (.aload_n 3, 1) := by decide +kernel
theorem dX11_swapSeats_47 : decode cX11_swapSeats 47 = .ok (.aload 4, 2) := by decide +kernel
theorem dX11_swapSeats_49 : decode cX11_swapSeats 49 = .ok (.invokevirtual 338, 3) := by decide +kernel
theorem dX11_swapSeats_52 : decode cX11_swapSeats 52 = .ok (.ireturn, 1) := by decide +kernel
theorem dX11_setWage_0 : decode cX11_setWage 0 = .ok (.iload_n 1, 1) := by decide +kernel
theorem dX11_setWage_1 : decode cX11_setWage 1 = .ok (.iconst 0, 1) := by decide +kernel
theorem dX11_setWage_2 : decode cX11_setWage 2 = .ok (.bipush 20, 2) := by decide +kernel
theorem dX11_setWage_4 : decode cX11_setWage 4 = .ok (.invokestatic 91, 3) := by decide +kernel
theorem dX11_setWage_7 : decode cX11_setWage 7 = .ok (.aload_n 0, 1) := by decide +kernel
theorem dX11_setWage_8 : decode cX11_setWage 8 = .ok (.getfield 48, 3) := by decide +kernel
theorem dX11_setWage_11 : decode cX11_setWage 11 = .ok (.aload_n 0, 1) := by decide +kernel
theorem dX11_setWage_12 : decode cX11_setWage 12 = .ok (.getfield 38, 3) := by decide +kernel
theorem dX11_setWage_15 : decode cX11_setWage 15 = .ok (.invokevirtual 109, 3) := by decide +kernel
theorem dX11_setWage_18 : decode cX11_setWage 18 = .ok (.aload_n 0, 1) := by decide +kernel
theorem dX11_setWage_19 : decode cX11_setWage 19 = .ok (.getfield 38, 3) := by decide +kernel
theorem dX11_setWage_22 : decode cX11_setWage 22 = .ok (.getfield 135, 3) := by decide +kernel
theorem dX11_setWage_25 : decode cX11_setWage 25 = .ok (.istore_n 2, 1) := by decide +kernel
theorem dX11_setWage_26 : decode cX11_setWage 26 = .ok (.aload_n 0, 1) := by decide +kernel
theorem dX11_setWage_27 : decode cX11_setWage 27 = .ok (.getfield 38, 3) := by decide +kernel
theorem dX11_setWage_30 : decode cX11_setWage 30 = .ok (.iload_n 1, 1) := by decide +kernel
theorem dX11_setWage_31 : decode cX11_setWage 31 = .ok (.putfield 135, 3) := by decide +kernel
theorem dX11_setWage_34 : decode cX11_setWage 34 = .ok (.iload_n 2, 1) := by decide +kernel
theorem dX11_setWage_35 : decode cX11_setWage 35 = .ok (.ireturn, 1) := by decide +kernel
theorem dX11_advance_0 : decode cX11_advance 0 = .ok (.iload_n 1, 1) := by decide +kernel
theorem dX11_advance_1 : decode cX11_advance 1 = .ok (.iconst 1, 1) := by decide +kernel
theorem dX11_advance_2 : decode cX11_advance 2 = .ok (.bipush 30, 2) := by decide +kernel
theorem dX11_advance_4 : decode cX11_advance 4 = .ok (.invokestatic 91, 3) := by decide +kernel
theorem dX11_advance_7 : decode cX11_advance 7 = .ok (.aload_n 0, 1) := by decide +kernel
theorem dX11_advance_8 : decode cX11_advance 8 = .ok (.getfield 38, 3) := by decide +kernel
theorem dX11_advance_11 : decode cX11_advance 11 = .ok (.iload_n 1, 1) := by decide +kernel
theorem dX11_advance_12 : decode cX11_advance 12 = .ok (.invokevirtual 341, 3) := by decide +kernel
theorem dX11_advance_15 : decode cX11_advance 15 = .ok (.ifCond .ne 14, 3) := by decide +kernel
theorem dX11_advance_18 : decode cX11_advance 18 = .ok (.new 81, 3) := by decide +kernel
theorem dX11_advance_21 : decode cX11_advance 21 = .ok (.dup, 1) := by decide +kernel
theorem dX11_advance_22 : decode cX11_advance 22 = .ok (.ldc_w 345, 3) := by decide +kernel
theorem dX11_advance_25 : decode cX11_advance 25 = .ok (.invokespecial 85, 3) := by decide +kernel
theorem dX11_advance_28 : decode cX11_advance 28 = .ok (.athrow, 1) := by decide +kernel
theorem dX11_advance_29 : decode cX11_advance 29 = .ok (.aload_n 0, 1) := by decide +kernel
theorem dX11_advance_30 : decode cX11_advance 30 = .ok (.getfield 48, 3) := by decide +kernel
theorem dX11_advance_33 : decode cX11_advance 33 = .ok (.aload_n 0, 1) := by decide +kernel
theorem dX11_advance_34 : decode cX11_advance 34 = .ok (.getfield 38, 3) := by decide +kernel
theorem dX11_advance_37 : decode cX11_advance 37 = .ok (.invokevirtual 109, 3) := by decide +kernel
theorem dX11_advance_40 : decode cX11_advance 40 = .ok (.aload_n 0, 1) := by decide +kernel
theorem dX11_advance_41 : decode cX11_advance 41 = .ok (.getfield 38, 3) := by decide +kernel
theorem dX11_advance_44 : decode cX11_advance 44 = .ok (.iload_n 1, 1) := by decide +kernel
theorem dX11_advance_45 : decode cX11_advance 45 = .ok (.invokevirtual 307, 3) := by decide +kernel
theorem dX11_advance_48 : decode cX11_advance 48 = .ok (.ireturn, 1) := by decide +kernel
theorem dX11_writeBoard_0 : decode cX11_writeBoard 0 = .ok (.aload_n 0, 1) := by decide +kernel
theorem dX11_writeBoard_1 : decode cX11_writeBoard 1 = .ok (.iload_n 1, 1) := by decide +kernel
theorem dX11_writeBoard_2 : decode cX11_writeBoard 2 = .ok (.invokevirtual 147, 3) := by decide +kernel
theorem dX11_writeBoard_5 : decode cX11_writeBoard 5 = .ok (.astore_n 2, 1) := by decide +kernel
theorem dX11_writeBoard_6 : decode cX11_writeBoard 6 = .ok (.aload_n 0, 1) := by decide +kernel
theorem dX11_writeBoard_7 : decode cX11_writeBoard 7 = .ok (.getfield 16, 3) := by decide +kernel
theorem dX11_writeBoard_10 : decode cX11_writeBoard 10 = .ok (.iconst 0, 1) := by decide +kernel
theorem dX11_writeBoard_11 : decode cX11_writeBoard 11 = .ok (.putfield 77, 3) := by decide +kernel
theorem dX11_writeBoard_14 : decode cX11_writeBoard 14 = .ok (.aload_n 2, 1) := by decide +kernel
theorem dX11_writeBoard_15 : decode cX11_writeBoard 15 = .ok (.getfield 151, 3) := by decide +kernel
theorem dX11_writeBoard_18 : decode cX11_writeBoard 18 = .ok (.ineg, 1) := by decide +kernel
theorem dX11_writeBoard_19 : decode cX11_writeBoard 19 = .ok (.istore_n 3, 1) := by decide +kernel
theorem dX11_writeBoard_20 : decode cX11_writeBoard 20 = .ok (.iload_n 3, 1) := by decide +kernel
theorem dX11_writeBoard_21 : decode cX11_writeBoard 21 = .ok (.aload_n 2, 1) := by decide +kernel
theorem dX11_writeBoard_22 : decode cX11_writeBoard 22 = .ok (.getfield 151, 3) := by decide +kernel
theorem dX11_writeBoard_25 : decode cX11_writeBoard 25 = .ok (.if_icmp .gt 34, 3) := by decide +kernel
theorem dX11_writeBoard_28 : decode cX11_writeBoard 28 = .ok (.aload_n 0, 1) := by decide +kernel
theorem dX11_writeBoard_29 : decode cX11_writeBoard 29 = .ok (.getfield 16, 3) := by decide +kernel
theorem dX11_writeBoard_32 : decode cX11_writeBoard 32 = .ok (.getfield 77, 3) := by decide +kernel
theorem dX11_writeBoard_35 : decode cX11_writeBoard 35 = .ok (.ifCond .le 12, 3) := by decide +kernel
theorem dX11_writeBoard_38 : decode cX11_writeBoard 38 = .ok (.aload_n 0, 1) := by decide +kernel
theorem dX11_writeBoard_39 : decode cX11_writeBoard 39 = .ok (.getfield 16, 3) := by decide +kernel
theorem dX11_writeBoard_42 : decode cX11_writeBoard 42 = .ok (.bipush 32, 2) := by decide +kernel
theorem dX11_writeBoard_44 : decode cX11_writeBoard 44 = .ok (.invokevirtual 347, 3) := by decide +kernel
theorem dX11_writeBoard_47 : decode cX11_writeBoard 47 = .ok (.aload_n 0, 1) := by decide +kernel
theorem dX11_writeBoard_48 : decode cX11_writeBoard 48 = .ok (.aload_n 2, 1) := by decide +kernel
theorem dX11_writeBoard_49 : decode cX11_writeBoard 49 = .ok (.iload_n 3, 1) := by decide +kernel
theorem dX11_writeBoard_50 : decode cX11_writeBoard 50 = .ok (.invokevirtual 350, 3) := by decide +kernel
theorem dX11_writeBoard_53 : decode cX11_writeBoard 53 = .ok (.iinc 3 1, 3) := by decide +kernel
theorem dX11_writeBoard_56 : decode cX11_writeBoard 56 = .ok (.goto (-36), 3) := by decide +kernel
theorem dX11_writeBoard_59 : decode cX11_writeBoard 59 = .ok (.aload_n 0, 1) := by decide +kernel
theorem dX11_writeBoard_60 : decode cX11_writeBoard 60 = .ok (.getfield 16, 3) := by decide +kernel
theorem dX11_writeBoard_63 : decode cX11_writeBoard 63 = .ok (.getfield 77, 3) := by decide +kernel
theorem dX11_writeBoard_66 : decode cX11_writeBoard 66 = .ok (.ireturn, 1) := by decide +kernel
theorem dX11_outputByte_0 : decode cX11_outputByte 0 = .ok (.aload_n 0, 1) := by decide +kernel
theorem dX11_outputByte_1 : decode cX11_outputByte 1 = .ok (.getfield 16, 3) := by decide +kernel
theorem dX11_outputByte_4 : decode cX11_outputByte 4 = .ok (.iload_n 1, 1) := by decide +kernel
theorem dX11_outputByte_5 : decode cX11_outputByte 5 = .ok (.invokevirtual 354, 3) := by decide +kernel
theorem dX11_outputByte_8 : decode cX11_outputByte 8 = .ok (.ireturn, 1) := by decide +kernel
theorem dX11_undoCount_0 : decode cX11_undoCount 0 = .ok (.aload_n 0, 1) := by decide +kernel
theorem dX11_undoCount_1 : decode cX11_undoCount 1 = .ok (.getfield 48, 3) := by decide +kernel
theorem dX11_undoCount_4 : decode cX11_undoCount 4 = .ok (.getfield 357, 3) := by decide +kernel
theorem dX11_undoCount_7 : decode cX11_undoCount 7 = .ok (.ireturn, 1) := by decide +kernel
theorem dX11_undo_0 : decode cX11_undo 0 = .ok (.aload_n 0, 1) := by decide +kernel
theorem dX11_undo_1 : decode cX11_undo 1 = .ok (.getfield 48, 3) := by decide +kernel
theorem dX11_undo_4 : decode cX11_undo 4 = .ok (.getfield 357, 3) := by decide +kernel
theorem dX11_undo_7 : decode cX11_undo 7 = .ok (.ifCond .ne 14, 3) := by decide +kernel
theorem dX11_undo_10 : decode cX11_undo 10 = .ok (.new 81, 3) := by decide +kernel
theorem dX11_undo_13 : decode cX11_undo 13 = .ok (.dup, 1) := by decide +kernel
theorem dX11_undo_14 : decode cX11_undo 14 = .ok (.ldc_w 360, 3) := by decide +kernel
theorem dX11_undo_17 : decode cX11_undo 17 = .ok (.invokespecial 85, 3) := by decide +kernel
theorem dX11_undo_20 : decode cX11_undo 20 = .ok (.athrow, 1) := by decide +kernel
theorem dX11_undo_21 : decode cX11_undo 21 = .ok (.aload_n 0, 1) := by decide +kernel
theorem dX11_undo_22 : decode cX11_undo 22 = .ok (.getfield 48, 3) := by decide +kernel
theorem dX11_undo_25 : decode cX11_undo 25 = .ok (.aload_n 0, 1) := by decide +kernel
theorem dX11_undo_26 : decode cX11_undo 26 = .ok (.getfield 38, 3) := by decide +kernel
theorem dX11_undo_29 : decode cX11_undo 29 = .ok (.invokevirtual 362, 3) := by decide +kernel
theorem dX11_undo_32 : decode cX11_undo 32 = .ok (.aload_n 0, 1) := by decide +kernel
theorem dX11_undo_33 : decode cX11_undo 33 = .ok (.getfield 48, 3) := by decide +kernel
theorem dX11_undo_36 : decode cX11_undo 36 = .ok (.getfield 357, 3) := by decide +kernel
theorem dX11_undo_39 : decode cX11_undo 39 = .ok (.ireturn, 1) := by decide +kernel
theorem dX11_save_0 : decode cX11_save 0 = .ok (.aload_n 0, 1) := by decide +kernel
theorem dX11_save_1 : decode cX11_save 1 = .ok (.iload_n 1, 1) := by decide +kernel
theorem dX11_save_2 : decode cX11_save 2 = .ok (.invokevirtual 365, 3) := by decide +kernel
theorem dX11_save_5 : decode cX11_save 5 = .ok (.astore_n 2, 1) := by decide +kernel
theorem dX11_save_6 : decode cX11_save 6 = .ok (.aload_n 2, 1) := by decide +kernel
theorem dX11_save_7 : decode cX11_save 7 = .ok (.aload_n 0, 1) := by decide +kernel
theorem dX11_save_8 : decode cX11_save 8 = .ok (.getfield 38, 3) := by decide +kernel
theorem dX11_save_11 : decode cX11_save 11 = .ok (.invokevirtual 304, 3) := by decide +kernel
theorem dX11_save_14 : decode cX11_save 14 = .ok (.aload_n 0, 1) := by decide +kernel
theorem dX11_save_15 : decode cX11_save 15 = .ok (.getfield 56, 3) := by decide +kernel
theorem dX11_save_18 : decode cX11_save 18 = .ok (.iload_n 1, 1) := by decide +kernel
theorem dX11_save_19 : decode cX11_save 19 = .ok (.iconst 1, 1) := by decide +kernel
theorem dX11_save_20 : decode cX11_save 20 = .ok (.bastore, 1) := by decide +kernel
theorem dX11_save_21 : decode cX11_save 21 = .ok (.aload_n 0, 1) := by decide +kernel
theorem dX11_save_22 : decode cX11_save 22 = .ok (.getfield 38, 3) := by decide +kernel
theorem dX11_save_25 : decode cX11_save 25 = .ok (.getfield 129, 3) := by decide +kernel
theorem dX11_save_28 : decode cX11_save 28 = .ok (.ireturn, 1) := by decide +kernel
theorem dX11_restore_0 : decode cX11_restore 0 = .ok (.aload_n 0, 1) := by decide +kernel
theorem dX11_restore_1 : decode cX11_restore 1 = .ok (.iload_n 1, 1) := by decide +kernel
theorem dX11_restore_2 : decode cX11_restore 2 = .ok (.invokevirtual 365, 3) := by decide +kernel
theorem dX11_restore_5 : decode cX11_restore 5 = .ok (.astore_n 2, 1) := by decide +kernel
theorem dX11_restore_6 : decode cX11_restore 6 = .ok (.aload_n 0, 1) := by decide +kernel
theorem dX11_restore_7 : decode cX11_restore 7 = .ok (.getfield 56, 3) := by decide +kernel
theorem dX11_restore_10 : decode cX11_restore 10 = .ok (.iload_n 1, 1) := by decide +kernel
theorem dX11_restore_11 : decode cX11_restore 11 = .ok (.baload, 1) := by decide +kernel
theorem dX11_restore_12 : decode cX11_restore 12 = .ok (.ifCond .ne 14, 3) := by decide +kernel
theorem dX11_restore_15 : decode cX11_restore 15 = .ok (.new 81, 3) := by decide +kernel
theorem dX11_restore_18 : decode cX11_restore 18 = .ok (.dup, 1) := by decide +kernel
theorem dX11_restore_19 : decode cX11_restore 19 = .ok (.ldc_w 369, 3) := by decide +kernel
theorem dX11_restore_22 : decode cX11_restore 22 = .ok (.invokespecial 85, 3) := by decide +kernel
theorem dX11_restore_25 : decode cX11_restore 25 = .ok (.athrow, 1) := by decide +kernel
theorem dX11_restore_26 : decode cX11_restore 26 = .ok (.aload_n 0, 1) := by decide +kernel
theorem dX11_restore_27 : decode cX11_restore 27 = .ok (.getfield 38, 3) := by decide +kernel
theorem dX11_restore_30 : decode cX11_restore 30 = .ok (.aload_n 2, 1) := by decide +kernel
theorem dX11_restore_31 : decode cX11_restore 31 = .ok (.invokevirtual 304, 3) := by decide +kernel
theorem dX11_restore_34 : decode cX11_restore 34 = .ok (.aload_n 0, 1) := by decide +kernel
theorem dX11_restore_35 : decode cX11_restore 35 = .ok (.getfield 48, 3) := by decide +kernel
theorem dX11_restore_38 : decode cX11_restore 38 = .ok (.invokevirtual 371, 3) := by decide +kernel
theorem dX11_restore_41 : decode cX11_restore 41 = .ok (.aload_n 0, 1) := by decide +kernel
theorem dX11_restore_42 : decode cX11_restore 42 = .ok (.getfield 38, 3) := by decide +kernel
theorem dX11_restore_45 : decode cX11_restore 45 = .ok (.getfield 129, 3) := by decide +kernel
theorem dX11_restore_48 : decode cX11_restore 48 = .ok (.ireturn, 1) := by decide +kernel
theorem dX11_beginMarketOfText_0 : decode cX11_beginMarketOfText 0 = .ok (.aload_n 0, 1) := by decide +kernel
theorem dX11_beginMarketOfText_1 : decode cX11_beginMarketOfText 1 = .ok (.getfield 24, 3) := by decide +kernel
theorem dX11_beginMarketOfText_4 : decode cX11_beginMarketOfText 4 = .ok (.invokevirtual 98, 3) := by decide +kernel
theorem dX11_beginMarketOfText_7 : decode cX11_beginMarketOfText 7 = .ok (.aload_n 0, 1) := by decide +kernel
theorem dX11_beginMarketOfText_8 : decode cX11_beginMarketOfText 8 = .ok (.getfield 24, 3) := by decide +kernel
theorem dX11_beginMarketOfText_11 : decode cX11_beginMarketOfText 11 = .ok (.aload_n 0, 1) := by decide +kernel
theorem dX11_beginMarketOfText_12 : decode cX11_beginMarketOfText 12 = .ok (.getfield 42, 3) := by decide +kernel
theorem dX11_beginMarketOfText_15 : decode cX11_beginMarketOfText 15 = .ok (.invokestatic 374, 3) := by decide +kernel
theorem dX11_beginMarketOfText_18 : decode cX11_beginMarketOfText 18 = .ok (.aload_n 0, 1) := by decide +kernel
theorem dX11_beginMarketOfText_19 : decode cX11_beginMarketOfText 19 = .ok (.getfield 10, 3) := by decide +kernel
theorem dX11_beginMarketOfText_22 : decode cX11_beginMarketOfText 22 = .ok (.iconst 0, 1) := by decide +kernel
theorem dX11_beginMarketOfText_23 : decode cX11_beginMarketOfText 23 = .ok (.putfield 77, 3) := by decide +kernel
theorem dX11_beginMarketOfText_26 : decode cX11_beginMarketOfText 26 = .ok (.aload_n 0, 1) := by decide +kernel
theorem dX11_beginMarketOfText_27 : decode cX11_beginMarketOfText 27 = .ok (.getfield 24, 3) := by decide +kernel
theorem dX11_beginMarketOfText_30 : decode cX11_beginMarketOfText 30 = .ok (.invokevirtual 105, 3) := by decide +kernel
theorem dX11_beginMarketOfText_33 : decode cX11_beginMarketOfText 33 = .ok (.ifCond .eq 4, 3) := by decide +kernel
theorem dX11_beginMarketOfText_36 : decode cX11_beginMarketOfText 36 = .ok (.return_, 1) := by decide +kernel
theorem dX11_beginMarketOfText_37 : decode cX11_beginMarketOfText 37 = .ok (.aload_n 0, 1) := by decide +kernel
theorem dX11_beginMarketOfText_38 : decode cX11_beginMarketOfText 38 = .ok (.getfield 38, 3) := by decide +kernel
theorem dX11_beginMarketOfText_41 : decode cX11_beginMarketOfText 41 = .ok (.aload_n 0, 1) := by decide +kernel
theorem dX11_beginMarketOfText_42 : decode cX11_beginMarketOfText 42 = .ok (.getfield 42, 3) := by decide +kernel
theorem dX11_beginMarketOfText_45 : decode cX11_beginMarketOfText 45 = .ok (.invokevirtual 304, 3) := by decide +kernel
theorem dX11_beginMarketOfText_48 : decode cX11_beginMarketOfText 48 = .ok (.aload_n 0, 1) := by decide +kernel
theorem dX11_beginMarketOfText_49 : decode cX11_beginMarketOfText 49 = .ok (.getfield 48, 3) := by decide +kernel
theorem dX11_beginMarketOfText_52 : decode cX11_beginMarketOfText 52 = .ok (.invokevirtual 371, 3) := by decide +kernel
theorem dX11_beginMarketOfText_55 : decode cX11_beginMarketOfText 55 = .ok (.iconst 0, 1) := by decide +kernel
theorem dX11_beginMarketOfText_56 : decode cX11_beginMarketOfText 56 = .ok (.istore_n 1, 1) := by decide +kernel
theorem dX11_beginMarketOfText_57 : decode cX11_beginMarketOfText 57 = .ok (.iload_n 1, 1) := by decide +kernel
theorem dX11_beginMarketOfText_58 : decode cX11_beginMarketOfText 58 = .ok (.aload_n 0, 1) := by decide +kernel
theorem dX11_beginMarketOfText_59 : decode cX11_beginMarketOfText 59 = .ok (.getfield 56, 3) := by decide +kernel
theorem dX11_beginMarketOfText_62 : decode cX11_beginMarketOfText 62 = .ok (.arraylength, 1) := by decide +kernel
theorem dX11_beginMarketOfText_63 : decode cX11_beginMarketOfText 63 = .ok (.if_icmp .ge 16, 3) := by decide +kernel
theorem dX11_beginMarketOfText_66 : decode cX11_beginMarketOfText 66 = .ok (.aload_n 0, 1) := by decide +kernel
theorem dX11_beginMarketOfText_67 : decode cX11_beginMarketOfText 67 = .ok (.getfield 56, 3) := by decide +kernel
theorem dX11_beginMarketOfText_70 : decode cX11_beginMarketOfText 70 = .ok (.iload_n 1, 1) := by decide +kernel
theorem dX11_beginMarketOfText_71 : decode cX11_beginMarketOfText 71 = .ok (.iconst 0, 1) := by decide +kernel
theorem dX11_beginMarketOfText_72 : decode cX11_beginMarketOfText 72 = .ok (.bastore, 1) := by decide +kernel
theorem dX11_beginMarketOfText_73 : decode cX11_beginMarketOfText 73 = .ok (.iinc 1 1, 3) := by decide +kernel
theorem dX11_beginMarketOfText_76 : decode cX11_beginMarketOfText 76 = .ok (.goto (-19), 3) := by decide +kernel
theorem dX11_beginMarketOfText_79 : decode cX11_beginMarketOfText 79 = .ok (.return_, 1) := by decide +kernel
theorem dX11_writePlace_0 : decode cX11_writePlace 0 = .ok (.aload_n 0, 1) := by decide +kernel
theorem dX11_writePlace_1 : decode cX11_writePlace 1 = .ok (.getfield 38, 3) := by decide +kernel
theorem dX11_writePlace_4 : decode cX11_writePlace 4 = .ok (.aload_n 1, 1) := by decide +kernel
theorem dX11_writePlace_5 : decode cX11_writePlace 5 = .ok (.iload_n 2, 1) := by decide +kernel
theorem dX11_writePlace_6 : decode cX11_writePlace 6 = .ok (.invokevirtual 170, 3) := by decide +kernel
theorem dX11_writePlace_9 : decode cX11_writePlace 9 = .ok (.invokevirtual 310, 3) := by decide +kernel
theorem dX11_writePlace_12 : decode cX11_writePlace 12 = .ok (.astore_n 3, 1) := by decide +kernel
theorem dX11_writePlace_13 : decode cX11_writePlace 13 = .ok (.iload_n 2, 1) := by decide +kernel
theorem dX11_writePlace_14 : decode cX11_writePlace 14 = .ok (.ifCond .ne 15, 3) := by decide +kernel
theorem dX11_writePlace_17 : decode cX11_writePlace 17 = .ok (.aload_n 0, 1) := by decide +kernel
theorem dX11_writePlace_18 : decode cX11_writePlace 18 = .ok (.getfield 16, 3) := by decide +kernel
theorem dX11_writePlace_21 : decode cX11_writePlace 21 = .ok (.bipush 94, 2) := by decide +kernel
theorem dX11_writePlace_23 : decode cX11_writePlace 23 = .ok (.invokevirtual 347, 3) := by decide +kernel
theorem dX11_writePlace_26 : decode cX11_writePlace 26 = .ok (.goto 30, 3) := by decide +kernel
theorem dX11_writePlace_29 : decode cX11_writePlace 29 = .ok (.aload_n 3, 1) := by decide +kernel
theorem dX11_writePlace_30 : decode cX11_writePlace 30 = .ok (.ifnonnull 15, 3) := by decide +kernel
theorem dX11_writePlace_33 : decode cX11_writePlace 33 = .ok (.aload_n 0, 1) := by decide +kernel
theorem dX11_writePlace_34 : decode cX11_writePlace 34 = .ok (.getfield 16, 3) := by decide +kernel
theorem dX11_writePlace_37 : decode cX11_writePlace 37 = .ok (.bipush 46, 2) := by decide +kernel
theorem dX11_writePlace_39 : decode cX11_writePlace 39 = .ok (.invokevirtual 347, 3) := by decide +kernel
theorem dX11_writePlace_42 : decode cX11_writePlace 42 = .ok (.goto 14, 3) := by decide +kernel
theorem dX11_writePlace_45 : decode cX11_writePlace 45 = .ok (.aload_n 0, 1) := by decide +kernel
theorem dX11_writePlace_46 : decode cX11_writePlace 46 = .ok (.getfield 16, 3) := by decide +kernel
theorem dX11_writePlace_49 : decode cX11_writePlace 49 = .ok (.aload_n 3, 1) := by decide +kernel
theorem dX11_writePlace_50 : decode cX11_writePlace 50 = .ok (.getfield 203, 3) := by decide +kernel
theorem dX11_writePlace_53 : decode cX11_writePlace 53 = .ok (.invokevirtual 379, 3) := by decide +kernel
theorem dX11_writePlace_56 : decode cX11_writePlace 56 = .ok (.return_, 1) := by decide +kernel
theorem dX11_existingBoard_0 : decode cX11_existingBoard 0 = .ok (.aload_n 0, 1) := by decide +kernel
theorem dX11_existingBoard_1 : decode cX11_existingBoard 1 = .ok (.getfield 38, 3) := by decide +kernel
theorem dX11_existingBoard_4 : decode cX11_existingBoard 4 = .ok (.iload_n 1, 1) := by decide +kernel
theorem dX11_existingBoard_5 : decode cX11_existingBoard 5 = .ok (.invokevirtual 383, 3) := by decide +kernel
theorem dX11_existingBoard_8 : decode cX11_existingBoard 8 = .ok (.astore_n 2, 1) := by decide +kernel
theorem dX11_existingBoard_9 : decode cX11_existingBoard 9 = .ok (.aload_n 2, 1) := by decide +kernel
theorem dX11_existingBoard_10 : decode cX11_existingBoard 10 = .ok (.ifnonnull 14, 3) := by decide +kernel
theorem dX11_existingBoard_13 : decode cX11_existingBoard 13 = .ok (.new 386, 3) := by decide +kernel
theorem dX11_existingBoard_16 : decode cX11_existingBoard 16 = .ok (.dup, 1) := by decide +kernel
theorem dX11_existingBoard_17 : decode cX11_existingBoard 17 = .ok (.ldc_w 388, 3) := by decide +kernel
theorem dX11_existingBoard_20 : decode cX11_existingBoard 20 = .ok (.invokespecial 390, 3) := by decide +kernel
theorem dX11_existingBoard_23 : decode cX11_existingBoard 23 = .ok (.athrow, 1) := by decide +kernel
theorem dX11_existingBoard_24 : decode cX11_existingBoard 24 = .ok (.aload_n 2, 1) := by decide +kernel
theorem dX11_existingBoard_25 : decode cX11_existingBoard 25 = .ok (.areturn, 1) := by decide +kernel
theorem dX11_boardWithSeat_0 : decode cX11_boardWithSeat 0 = .ok (.aload_n 0, 1) := by decide +kernel
theorem dX11_boardWithSeat_1 : decode cX11_boardWithSeat 1 = .ok (.iload_n 1, 1) := by decide +kernel
theorem dX11_boardWithSeat_2 : decode cX11_boardWithSeat 2 = .ok (.invokevirtual 147, 3) := by decide +kernel
theorem dX11_boardWithSeat_5 : decode cX11_boardWithSeat 5 = .ok (.astore_n 3, 1) := by decide +kernel
theorem dX11_boardWithSeat_6 : decode cX11_boardWithSeat 6 = .ok (.aload_n 3, 1) := by decide +kernel
theorem dX11_boardWithSeat_7 : decode cX11_boardWithSeat 7 = .ok (.iload_n 2, 1) := by decide +kernel
theorem dX11_boardWithSeat_8 : decode cX11_boardWithSeat 8 = .ok (.invokevirtual 391, 3) := by decide +kernel
theorem dX11_boardWithSeat_11 : decode cX11_boardWithSeat 11 = .ok (.ifCond .ne 14, 3) := by decide +kernel
theorem dX11_boardWithSeat_14 : decode cX11_boardWithSeat 14 = .ok (.new 386, 3) := by decide +kernel
theorem dX11_boardWithSeat_17 : decode cX11_boardWithSeat 17 = .ok (.dup, 1) := by decide +kernel
theorem dX11_boardWithSeat_18 : decode cX11_boardWithSeat 18 = .ok (.ldc_w 394, 3) := by decide +kernel
theorem dX11_boardWithSeat_21 : decode cX11_boardWithSeat 21 = .ok (.invokespecial 390, 3) := by decide +kernel
theorem dX11_boardWithSeat_24 : decode cX11_boardWithSeat 24 = .ok (.athrow, 1) := by decide +kernel
theorem dX11_boardWithSeat_25 : decode cX11_boardWithSeat 25 = .ok (.aload_n 3, 1) := by decide +kernel
theorem dX11_boardWithSeat_26 : decode cX11_boardWithSeat 26 = .ok (.areturn, 1) := by decide +kernel
theorem dX11_existingTrader_0 : decode cX11_existingTrader 0 = .ok (.aload_n 0, 1) := by decide +kernel
theorem dX11_existingTrader_1 : decode cX11_existingTrader 1 = .ok (.getfield 38, 3) := by decide +kernel
theorem dX11_existingTrader_4 : decode cX11_existingTrader 4 = .ok (.iload_n 1, 1) := by decide +kernel
theorem dX11_existingTrader_5 : decode cX11_existingTrader 5 = .ok (.invokevirtual 310, 3) := by decide +kernel
theorem dX11_existingTrader_8 : decode cX11_existingTrader 8 = .ok (.astore_n 2, 1) := by decide +kernel
theorem dX11_existingTrader_9 : decode cX11_existingTrader 9 = .ok (.aload_n 2, 1) := by decide +kernel
theorem dX11_existingTrader_10 : decode cX11_existingTrader 10 = .ok (.ifnonnull 14, 3) := by decide +kernel
theorem dX11_existingTrader_13 : decode cX11_existingTrader 13 = .ok (.new 386, 3) := by decide +kernel
theorem dX11_existingTrader_16 : decode cX11_existingTrader 16 = .ok (.dup, 1) := by decide +kernel
theorem dX11_existingTrader_17 : decode cX11_existingTrader 17 = .ok (.ldc_w 396, 3) := by decide +kernel
theorem dX11_existingTrader_20 : decode cX11_existingTrader 20 = .ok (.invokespecial 390, 3) := by decide +kernel
theorem dX11_existingTrader_23 : decode cX11_existingTrader 23 = .ok (.athrow, 1) := by decide +kernel
theorem dX11_existingTrader_24 : decode cX11_existingTrader 24 = .ok (.aload_n 2, 1) := by decide +kernel
theorem dX11_existingTrader_25 : decode cX11_existingTrader 25 = .ok (.areturn, 1) := by decide +kernel
theorem dX11_existingSlot_0 : decode cX11_existingSlot 0 = .ok (.iload_n 1, 1) := by decide +kernel
theorem dX11_existingSlot_1 : decode cX11_existingSlot 1 = .ok (.ifCond .lt 12, 3) := by decide +kernel
theorem dX11_existingSlot_4 : decode cX11_existingSlot 4 = .ok (.iload_n 1, 1) := by decide +kernel
theorem dX11_existingSlot_5 : decode cX11_existingSlot 5 = .ok (.aload_n 0, 1) := by decide +kernel
theorem dX11_existingSlot_6 : decode cX11_existingSlot 6 = .ok (.getfield 52, 3) := by decide +kernel
theorem dX11_existingSlot_9 : decode cX11_existingSlot 9 = .ok (.arraylength, 1) := by decide +kernel
theorem dX11_existingSlot_10 : decode cX11_existingSlot 10 = .ok (.if_icmp .lt 14, 3) := by decide +kernel
theorem dX11_existingSlot_13 : decode cX11_existingSlot 13 = .ok (.new 386, 3) := by decide +kernel
theorem dX11_existingSlot_16 : decode cX11_existingSlot 16 = .ok (.dup, 1) := by decide +kernel
theorem dX11_existingSlot_17 : decode cX11_existingSlot 17 = .ok (.ldc_w 398, 3) := by decide +kernel
theorem dX11_existingSlot_20 : decode cX11_existingSlot 20 = .ok (.invokespecial 390, 3) := by decide +kernel
theorem dX11_existingSlot_23 : decode cX11_existingSlot 23 = .ok (.athrow, 1) := by decide +kernel
theorem dX11_existingSlot_24 : decode cX11_existingSlot 24 = .ok (.aload_n 0, 1) := by decide +kernel
theorem dX11_existingSlot_25 : decode cX11_existingSlot 25 = .ok (.getfield 52, 3) := by decide +kernel
theorem dX11_existingSlot_28 : decode cX11_existingSlot 28 = .ok (.iload_n 1, 1) := by decide +kernel
theorem dX11_existingSlot_29 : decode cX11_existingSlot 29 = .ok (.aaload, 1) := by decide +kernel
theorem dX11_existingSlot_30 : decode cX11_existingSlot 30 = .ok (.areturn, 1) := by decide +kernel
theorem dX11_requireRange_0 : decode cX11_requireRange 0 = .ok (.iload_n 0, 1) := by decide +kernel
theorem dX11_requireRange_1 : decode cX11_requireRange 1 = .ok (.iload_n 1, 1) := by decide +kernel
theorem dX11_requireRange_2 : decode cX11_requireRange 2 = .ok (.if_icmp .lt 8, 3) := by decide +kernel
theorem dX11_requireRange_5 : decode cX11_requireRange 5 = .ok (.iload_n 0, 1) := by decide +kernel
theorem dX11_requireRange_6 : decode cX11_requireRange 6 = .ok (.iload_n 2, 1) := by decide +kernel
theorem dX11_requireRange_7 : decode cX11_requireRange 7 = .ok (.if_icmp .le 14, 3) := by decide +kernel
theorem dX11_requireRange_10 : decode cX11_requireRange 10 = .ok (.new 400, 3) := by decide +kernel
theorem dX11_requireRange_13 : decode cX11_requireRange 13 = .ok (.dup, 1) := by decide +kernel
theorem dX11_requireRange_14 : decode cX11_requireRange 14 = .ok (.ldc_w 402, 3) := by decide +kernel
theorem dX11_requireRange_17 : decode cX11_requireRange 17 = .ok (.invokespecial 404, 3) := by decide +kernel
theorem dX11_requireRange_20 : decode cX11_requireRange 20 = .ok (.athrow, 1) := by decide +kernel
theorem dX11_requireRange_21 : decode cX11_requireRange 21 = .ok (.return_, 1) := by decide +kernel
theorem dX11_requireDifferent_0 : decode cX11_requireDifferent 0 = .ok (.iload_n 0, 1) := by decide +kernel
theorem dX11_requireDifferent_1 : decode cX11_requireDifferent 1 = .ok (.iload_n 1, 1) := by decide +kernel
theorem dX11_requireDifferent_2 : decode cX11_requireDifferent 2 = .ok (.if_icmp .ne 14, 3) := by decide +kernel
theorem dX11_requireDifferent_5 : decode cX11_requireDifferent 5 = .ok (.new 400, 3) := by decide +kernel
theorem dX11_requireDifferent_8 : decode cX11_requireDifferent 8 = .ok (.dup, 1) := by decide +kernel
theorem dX11_requireDifferent_9 : decode cX11_requireDifferent 9 = .ok (.ldc_w 405, 3) := by decide +kernel
theorem dX11_requireDifferent_12 : decode cX11_requireDifferent 12 = .ok (.invokespecial 404, 3) := by decide +kernel
theorem dX11_requireDifferent_15 : decode cX11_requireDifferent 15 = .ok (.athrow, 1) := by decide +kernel
theorem dX11_requireDifferent_16 : decode cX11_requireDifferent 16 = .ok (.return_, 1) := by decide +kernel
theorem dX11_requireSeat_0 : decode cX11_requireSeat 0 = .ok (.aload_n 0, 1) := by decide +kernel
theorem dX11_requireSeat_1 : decode cX11_requireSeat 1 = .ok (.invokevirtual 407, 3) := by decide +kernel
theorem dX11_requireSeat_4 : decode cX11_requireSeat 4 = .ok (.ifCond .ne 14, 3) := by decide +kernel
theorem dX11_requireSeat_7 : decode cX11_requireSeat 7 = .ok (.new 81, 3) := by decide +kernel
theorem dX11_requireSeat_10 : decode cX11_requireSeat 10 = .ok (.dup, 1) := by decide +kernel
theorem dX11_requireSeat_11 : decode cX11_requireSeat 11 = .ok (.ldc_w 410, 3) := by decide +kernel
theorem dX11_requireSeat_14 : decode cX11_requireSeat 14 = .ok (.invokespecial 85, 3) := by decide +kernel
theorem dX11_requireSeat_17 : decode cX11_requireSeat 17 = .ok (.athrow, 1) := by decide +kernel
theorem dX11_requireSeat_18 : decode cX11_requireSeat 18 = .ok (.return_, 1) := by decide +kernel
theorem dX11_requirePossible_0 : decode cX11_requirePossible 0 = .ok (.iload_n 0, 1) := by decide +kernel
theorem dX11_requirePossible_1 : decode cX11_requirePossible 1 = .ok (.ifCond .eq 14, 3) := by decide +kernel
theorem dX11_requirePossible_4 : decode cX11_requirePossible 4 = .ok (.new 81, 3) := by decide +kernel
theorem dX11_requirePossible_7 : decode cX11_requirePossible 7 = .ok (.dup, 1) := by decide +kernel
theorem dX11_requirePossible_8 : decode cX11_requirePossible 8 = .ok (.ldc_w 412, 3) := by decide +kernel
theorem dX11_requirePossible_11 : decode cX11_requirePossible 11 = .ok (.invokespecial 85, 3) := by decide +kernel
theorem dX11_requirePossible_14 : decode cX11_requirePossible 14 = .ok (.athrow, 1) := by decide +kernel
theorem dX11_requirePossible_15 : decode cX11_requirePossible 15 = .ok (.return_, 1) := by decide +kernel
theorem dX11_bytesIn_0 : decode cX11_bytesIn 0 = .ok (.iconst 0, 1) := by decide +kernel
theorem dX11_bytesIn_1 : decode cX11_bytesIn 1 = .ok (.istore_n 1, 1) := by decide +kernel
theorem dX11_bytesIn_2 : decode cX11_bytesIn 2 = .ok (.bipush 24, 2) := by decide +kernel
theorem dX11_bytesIn_4 : decode cX11_bytesIn 4 = .ok (.istore_n 2, 1) := by decide +kernel
theorem dX11_bytesIn_5 : decode cX11_bytesIn 5 = .ok (.iload_n 2, 1) := by decide +kernel
theorem dX11_bytesIn_6 : decode cX11_bytesIn 6 = .ok (.ifCond .lt 22, 3) := by decide +kernel
theorem dX11_bytesIn_9 : decode cX11_bytesIn 9 = .ok (.iload_n 0, 1) := by decide +kernel
theorem dX11_bytesIn_10 : decode cX11_bytesIn 10 = .ok (.iload_n 2, 1) := by decide +kernel
theorem dX11_bytesIn_11 : decode cX11_bytesIn 11 = .ok (.iushr, 1) := by decide +kernel
theorem dX11_bytesIn_12 : decode cX11_bytesIn 12 = .ok (.sipush 255, 3) := by decide +kernel
theorem dX11_bytesIn_15 : decode cX11_bytesIn 15 = .ok (.iand, 1) := by decide +kernel
theorem dX11_bytesIn_16 : decode cX11_bytesIn 16 = .ok (.ifCond .eq 6, 3) := by decide +kernel
theorem dX11_bytesIn_19 : decode cX11_bytesIn 19 = .ok (.iinc 1 1, 3) := by decide +kernel
theorem dX11_bytesIn_22 : decode cX11_bytesIn 22 = .ok (.iinc 2 (-8), 3) := by decide +kernel
theorem dX11_bytesIn_25 : decode cX11_bytesIn 25 = .ok (.goto (-20), 3) := by decide +kernel
theorem dX11_bytesIn_28 : decode cX11_bytesIn 28 = .ok (.iload_n 1, 1) := by decide +kernel
theorem dX11_bytesIn_29 : decode cX11_bytesIn 29 = .ok (.ireturn, 1) := by decide +kernel
theorem dX11_letterOf_0 : decode cX11_letterOf 0 = .ok (.iload_n 2, 1) := by decide +kernel
theorem dX11_letterOf_1 : decode cX11_letterOf 1 = .ok (.ifCond .lt 23, 3) := by decide +kernel
theorem dX11_letterOf_4 : decode cX11_letterOf 4 = .ok (.iload_n 2, 1) := by decide +kernel
theorem dX11_letterOf_5 : decode cX11_letterOf 5 = .ok (.bipush 6, 2) := by decide +kernel
theorem dX11_letterOf_7 : decode cX11_letterOf 7 = .ok (.if_icmp .ge 17, 3) := by decide +kernel
theorem dX11_letterOf_10 : decode cX11_letterOf 10 = .ok (.lload_n 0, 1) := by decide +kernel
theorem dX11_letterOf_11 : decode cX11_letterOf 11 = .ok (.bipush 8, 2) := by decide +kernel
theorem dX11_letterOf_13 : decode cX11_letterOf 13 = .ok (.iload_n 2, 1) := by decide +kernel
theorem dX11_letterOf_14 : decode cX11_letterOf 14 = .ok (.imul, 1) := by decide +kernel
theorem dX11_letterOf_15 : decode cX11_letterOf 15 = .ok (.lushr, 1) := by decide +kernel
theorem dX11_letterOf_16 : decode cX11_letterOf 16 = .ok (.ldc2_w 414, 3) := by decide +kernel
theorem dX11_letterOf_19 : decode cX11_letterOf 19 = .ok (.land, 1) := by decide +kernel
theorem dX11_letterOf_20 : decode cX11_letterOf 20 = .ok (.l2i, 1) := by decide +kernel
theorem dX11_letterOf_21 : decode cX11_letterOf 21 = .ok (.goto 4, 3) := by decide +kernel
theorem dX11_letterOf_24 : decode cX11_letterOf 24 = .ok (.iconst 0, 1) := by decide +kernel
theorem dX11_letterOf_25 : decode cX11_letterOf 25 = .ok (.istore_n 3, 1) := by decide +kernel
theorem dX11_letterOf_26 : decode cX11_letterOf 26 = .ok (.iload_n 3, 1) := by decide +kernel
theorem dX11_letterOf_27 : decode cX11_letterOf 27 = .ok (.ifCond .ne 7, 3) := by decide +kernel
theorem dX11_letterOf_30 : decode cX11_letterOf 30 = .ok (.iconst (-1), 1) := by decide +kernel
theorem dX11_letterOf_31 : decode cX11_letterOf 31 = .ok (.goto 4, 3) := by decide +kernel
theorem dX11_letterOf_34 : decode cX11_letterOf 34 = .ok (.iload_n 3, 1) := by decide +kernel
theorem dX11_letterOf_35 : decode cX11_letterOf 35 = .ok (.ireturn, 1) := by decide +kernel
theorem dX11_isLetter_0 : decode cX11_isLetter 0 = .ok (.iload_n 0, 1) := by decide +kernel
theorem dX11_isLetter_1 : decode cX11_isLetter 1 = .ok (.bipush 97, 2) := by decide +kernel
theorem dX11_isLetter_3 : decode cX11_isLetter 3 = .ok (.if_icmp .lt 13, 3) := by decide +kernel
theorem dX11_isLetter_6 : decode cX11_isLetter 6 = .ok (.iload_n 0, 1) := by decide +kernel
theorem dX11_isLetter_7 : decode cX11_isLetter 7 = .ok (.bipush 122, 2) := by decide +kernel
theorem dX11_isLetter_9 : decode cX11_isLetter 9 = .ok (.if_icmp .gt 7, 3) := by decide +kernel
theorem dX11_isLetter_12 : decode cX11_isLetter 12 = .ok (.iconst 1, 1) := by decide +kernel
theorem dX11_isLetter_13 : decode cX11_isLetter 13 = .ok (.goto 4, 3) := by decide +kernel
theorem dX11_isLetter_16 : decode cX11_isLetter 16 = .ok (.iconst 0, 1) := by decide +kernel
theorem dX11_isLetter_17 : decode cX11_isLetter 17 = .ok (.ireturn, 1) := by decide +kernel
theorem dX11_isDigit_0 : decode cX11_isDigit 0 = .ok (.iload_n 0, 1) := by decide +kernel
theorem dX11_isDigit_1 : decode cX11_isDigit 1 = .ok (.bipush 48, 2) := by decide +kernel
theorem dX11_isDigit_3 : decode cX11_isDigit 3 = .ok (.if_icmp .lt 13, 3) := by decide +kernel
theorem dX11_isDigit_6 : decode cX11_isDigit 6 = .ok (.iload_n 0, 1) := by decide +kernel
theorem dX11_isDigit_7 : decode cX11_isDigit 7 = .ok (.bipush 57, 2) := by decide +kernel
theorem dX11_isDigit_9 : decode cX11_isDigit 9 = .ok (.if_icmp .gt 7, 3) := by decide +kernel
theorem dX11_isDigit_12 : decode cX11_isDigit 12 = .ok (.iconst 1, 1) := by decide +kernel
theorem dX11_isDigit_13 : decode cX11_isDigit 13 = .ok (.goto 4, 3) := by decide +kernel
theorem dX11_isDigit_16 : decode cX11_isDigit 16 = .ok (.iconst 0, 1) := by decide +kernel
theorem dX11_isDigit_17 : decode cX11_isDigit 17 = .ok (.ireturn, 1) := by decide +kernel
theorem dX12_init_0 : decode cX12_init 0 = .ok (.aload_n 0, 1) := by decide +kernel
theorem dX12_init_1 : decode cX12_init 1 = .ok (.invokespecial 1, 3) := by decide +kernel
theorem dX12_init_4 : decode cX12_init 4 = .ok (.aload_n 0, 1) := by decide +kernel
theorem dX12_init_5 : decode cX12_init 5 = .ok (.sipush 293, 3) := by decide +kernel
theorem dX12_init_8 : decode cX12_init 8 = .ok (.newarray .int, 2) := by decide +kernel
theorem dX12_init_10 : decode cX12_init 10 = .ok (.putfield 7, 3) := by decide +kernel
theorem dX12_init_13 : decode cX12_init 13 = .ok (.aload_n 0, 1) := by decide +kernel
theorem dX12_init_14 : decode cX12_init 14 = .ok (.sipush 293, 3) := by decide +kernel
theorem dX12_init_17 : decode cX12_init 17 = .ok (.newarray .int, 2) := by decide +kernel
theorem dX12_init_19 : decode cX12_init 19 = .ok (.putfield 13, 3) := by decide +kernel
theorem dX12_init_22 : decode cX12_init 22 = .ok (.aload_n 0, 1) := by decide +kernel
theorem dX12_init_23 : decode cX12_init 23 = .ok (.sipush 2344, 3) := by decide +kernel
theorem dX12_init_26 : decode cX12_init 26 = .ok (.newarray .int, 2) := by decide +kernel
theorem dX12_init_28 : decode cX12_init 28 = .ok (.putfield 16, 3) := by decide +kernel
theorem dX12_init_31 : decode cX12_init 31 = .ok (.aload_n 0, 1) := by decide +kernel
theorem dX12_init_32 : decode cX12_init 32 = .ok (.sipush 586, 3) := by decide +kernel
theorem dX12_init_35 : decode cX12_init 35 = .ok (.newarray .int, 2) := by decide +kernel
theorem dX12_init_37 : decode cX12_init 37 = .ok (.putfield 19, 3) := by decide +kernel
theorem dX12_init_40 : decode cX12_init 40 = .ok (.aload_n 0, 1) := by decide +kernel
theorem dX12_init_41 : decode cX12_init 41 = .ok (.iconst 2, 1) := by decide +kernel
theorem dX12_init_42 : decode cX12_init 42 = .ok (.newarray .boolean, 2) := by decide +kernel
theorem dX12_init_44 : decode cX12_init 44 = .ok (.putfield 22, 3) := by decide +kernel
theorem dX12_init_47 : decode cX12_init 47 = .ok (.aload_n 0, 1) := by decide +kernel
theorem dX12_init_48 : decode cX12_init 48 = .ok (.bipush 24, 2) := by decide +kernel
theorem dX12_init_50 : decode cX12_init 50 = .ok (.newarray .boolean, 2) := by decide +kernel
theorem dX12_init_52 : decode cX12_init 52 = .ok (.putfield 26, 3) := by decide +kernel
theorem dX12_init_55 : decode cX12_init 55 = .ok (.aload_n 0, 1) := by decide +kernel
theorem dX12_init_56 : decode cX12_init 56 = .ok (.sipush 800, 3) := by decide +kernel
theorem dX12_init_59 : decode cX12_init 59 = .ok (.newarray .int, 2) := by decide +kernel
theorem dX12_init_61 : decode cX12_init 61 = .ok (.putfield 29, 3) := by decide +kernel
theorem dX12_init_64 : decode cX12_init 64 = .ok (.aload_n 0, 1) := by decide +kernel
theorem dX12_init_65 : decode cX12_init 65 = .ok (.sipush 800, 3) := by decide +kernel
theorem dX12_init_68 : decode cX12_init 68 = .ok (.newarray .int, 2) := by decide +kernel
theorem dX12_init_70 : decode cX12_init 70 = .ok (.putfield 32, 3) := by decide +kernel
theorem dX12_init_73 : decode cX12_init 73 = .ok (.aload_n 0, 1) := by decide +kernel
theorem dX12_init_74 : decode cX12_init 74 = .ok (.iconst (-1), 1) := by decide +kernel
theorem dX12_init_75 : decode cX12_init 75 = .ok (.putfield 35, 3) := by decide +kernel
theorem dX12_init_78 : decode cX12_init 78 = .ok (.aload_n 0, 1) := by decide +kernel
theorem dX12_init_79 : decode cX12_init 79 = .ok (.iconst 4, 1) := by decide +kernel
theorem dX12_init_80 : decode cX12_init 80 = .ok (.newarray .int, 2) := by decide +kernel
theorem dX12_init_82 : decode cX12_init 82 = .ok (.putfield 39, 3) := by decide +kernel
theorem dX12_init_85 : decode cX12_init 85 = .ok (.aload_n 0, 1) := by decide +kernel
theorem dX12_init_86 : decode cX12_init 86 = .ok (.iconst 4, 1) := by decide +kernel
theorem dX12_init_87 : decode cX12_init 87 = .ok (.newarray .int, 2) := by decide +kernel
theorem dX12_init_89 : decode cX12_init 89 = .ok (.putfield 42, 3) := by decide +kernel
theorem dX12_init_92 : decode cX12_init 92 = .ok (.aload_n 0, 1) := by decide +kernel
theorem dX12_init_93 : decode cX12_init 93 = .ok (.sipush 200, 3) := by decide +kernel
theorem dX12_init_96 : decode cX12_init 96 = .ok (.newarray .int, 2) := by decide +kernel
theorem dX12_init_98 : decode cX12_init 98 = .ok (.putfield 45, 3) := by decide +kernel
theorem dX12_init_101 : decode cX12_init 101 = .ok (.aload_n 0, 1) := by decide +kernel
theorem dX12_init_102 : decode cX12_init 102 = .ok (.getfield 7, 3) := by decide +kernel
theorem dX12_init_105 : decode cX12_init 105 = .ok (.iconst 0, 1) := by decide +kernel
theorem dX12_init_106 : decode cX12_init 106 = .ok (.iconst 3, 1) := by decide +kernel
theorem dX12_init_107 : decode cX12_init 107 = .ok (.iastore, 1) := by decide +kernel
theorem dX12_init_108 : decode cX12_init 108 = .ok (.aload_n 0, 1) := by decide +kernel
theorem dX12_init_109 : decode cX12_init 109 = .ok (.getfield 7, 3) := by decide +kernel
theorem dX12_init_112 : decode cX12_init 112 = .ok (.iconst 1, 1) := by decide +kernel
theorem dX12_init_113 : decode cX12_init 113 = .ok (.iconst 4, 1) := by decide +kernel
theorem dX12_init_114 : decode cX12_init 114 = .ok (.iastore, 1) := by decide +kernel
theorem dX12_init_115 : decode cX12_init 115 = .ok (.aload_n 0, 1) := by decide +kernel
theorem dX12_init_116 : decode cX12_init 116 = .ok (.getfield 7, 3) := by decide +kernel
theorem dX12_init_119 : decode cX12_init 119 = .ok (.iconst 2, 1) := by decide +kernel
theorem dX12_init_120 : decode cX12_init 120 = .ok (.iconst 2, 1) := by decide +kernel
theorem dX12_init_121 : decode cX12_init 121 = .ok (.iastore, 1) := by decide +kernel
theorem dX12_init_122 : decode cX12_init 122 = .ok (.aload_n 0, 1) := by decide +kernel
theorem dX12_init_123 : decode cX12_init 123 = .ok (.getfield 7, 3) := by decide +kernel
theorem dX12_init_126 : decode cX12_init 126 = .ok (.iconst 3, 1) := by decide +kernel
theorem dX12_init_127 : decode cX12_init 127 = .ok (.bipush 40, 2) := by decide +kernel
theorem dX12_init_129 : decode cX12_init 129 = .ok (.iastore, 1) := by decide +kernel
theorem dX12_init_130 : decode cX12_init 130 = .ok (.aload_n 0, 1) := by decide +kernel
theorem dX12_init_131 : decode cX12_init 131 = .ok (.getfield 7, 3) := by decide +kernel
theorem dX12_init_134 : decode cX12_init 134 = .ok (.iconst 4, 1) := by decide +kernel
theorem dX12_init_135 : decode cX12_init 135 = .ok (.iconst 5, 1) := by decide +kernel
theorem dX12_init_136 : decode cX12_init 136 = .ok (.iastore, 1) := by decide +kernel
theorem dX12_init_137 : decode cX12_init 137 = .ok (.aload_n 0, 1) := by decide +kernel
theorem dX12_init_138 : decode cX12_init 138 = .ok (.getfield 7, 3) := by decide +kernel
theorem dX12_init_141 : decode cX12_init 141 = .ok (.iconst 5, 1) := by decide +kernel
theorem dX12_init_142 : decode cX12_init 142 = .ok (.sipush 200, 3) := by decide +kernel
theorem dX12_init_145 : decode cX12_init 145 = .ok (.iastore, 1) := by decide +kernel
theorem dX12_init_146 : decode cX12_init 146 = .ok (.aload_n 0, 1) := by decide +kernel
theorem dX12_init_147 : decode cX12_init 147 = .ok (.iconst 3, 1) := by decide +kernel
theorem dX12_init_148 : decode cX12_init 148 = .ok (.bipush 10, 2) := by decide +kernel
theorem dX12_init_150 : decode cX12_init 150 = .ok (.bipush 60, 2) := by decide +kernel
theorem dX12_init_152 : decode cX12_init 152 = .ok (.invokevirtual 48, 3) := by decide +kernel
theorem dX12_init_155 : decode cX12_init 155 = .ok (.aload_n 0, 1) := by decide +kernel
theorem dX12_init_156 : decode cX12_init 156 = .ok (.iconst 2, 1) := by decide +kernel
theorem dX12_init_157 : decode cX12_init 157 = .ok (.iconst 5, 1) := by decide +kernel
theorem dX12_init_158 : decode cX12_init 158 = .ok (.bipush 30, 2) := by decide +kernel
theorem dX12_init_160 : decode cX12_init 160 = .ok (.invokevirtual 48, 3) := by decide +kernel
theorem dX12_init_163 : decode cX12_init 163 = .ok (.aload_n 0, 1) := by decide +kernel
theorem dX12_init_164 : decode cX12_init 164 = .ok (.sipush 1486, 3) := by decide +kernel
theorem dX12_init_167 : decode cX12_init 167 = .ok (.bipush 10, 2) := by decide +kernel
theorem dX12_init_169 : decode cX12_init 169 = .ok (.bipush 30, 2) := by decide +kernel
theorem dX12_init_171 : decode cX12_init 171 = .ok (.iconst 0, 1) := by decide +kernel
theorem dX12_init_172 : decode cX12_init 172 = .ok (.invokevirtual 52, 3) := by decide +kernel
theorem dX12_init_175 : decode cX12_init 175 = .ok (.aload_n 0, 1) := by decide +kernel
theorem dX12_init_176 : decode cX12_init 176 = .ok (.sipush 2530, 3) := by decide +kernel
theorem dX12_init_179 : decode cX12_init 179 = .ok (.bipush 6, 2) := by decide +kernel
theorem dX12_init_181 : decode cX12_init 181 = .ok (.bipush 25, 2) := by decide +kernel
theorem dX12_init_183 : decode cX12_init 183 = .ok (.bipush 12, 2) := by decide +kernel
theorem dX12_init_185 : decode cX12_init 185 = .ok (.invokevirtual 52, 3) := by decide +kernel
theorem dX12_init_188 : decode cX12_init 188 = .ok (.aload_n 0, 1) := by decide +kernel
theorem dX12_init_189 : decode cX12_init 189 = .ok (.sipush 3124, 3) := by decide +kernel
theorem dX12_init_192 : decode cX12_init 192 = .ok (.bipush 8, 2) := by decide +kernel
theorem dX12_init_194 : decode cX12_init 194 = .ok (.bipush 12, 2) := by decide +kernel
theorem dX12_init_196 : decode cX12_init 196 = .ok (.bipush 38, 2) := by decide +kernel
theorem dX12_init_198 : decode cX12_init 198 = .ok (.invokevirtual 52, 3) := by decide +kernel
theorem dX12_init_201 : decode cX12_init 201 = .ok (.aload_n 0, 1) := by decide +kernel
theorem dX12_init_202 : decode cX12_init 202 = .ok (.sipush 4142, 3) := by decide +kernel
theorem dX12_init_205 : decode cX12_init 205 = .ok (.bipush 15, 2) := by decide +kernel
theorem dX12_init_207 : decode cX12_init 207 = .ok (.bipush 40, 2) := by decide +kernel
theorem dX12_init_209 : decode cX12_init 209 = .ok (.iconst 5, 1) := by decide +kernel
theorem dX12_init_210 : decode cX12_init 210 = .ok (.invokevirtual 52, 3) := by decide +kernel
theorem dX12_init_213 : decode cX12_init 213 = .ok (.aload_n 0, 1) := by decide +kernel
theorem dX12_init_214 : decode cX12_init 214 = .ok (.iconst 0, 1) := by decide +kernel
theorem dX12_init_215 : decode cX12_init 215 = .ok (.iconst 0, 1) := by decide +kernel
theorem dX12_init_216 : decode cX12_init 216 = .ok (.bipush (-2), 2) := by decide +kernel
theorem dX12_init_218 : decode cX12_init 218 = .ok (.invokevirtual 56, 3) := by decide +kernel
theorem dX12_init_221 : decode cX12_init 221 = .ok (.aload_n 0, 1) := by decide +kernel
theorem dX12_init_222 : decode cX12_init 222 = .ok (.iconst 1, 1) := by decide +kernel
theorem dX12_init_223 : decode cX12_init 223 = .ok (.iconst 0, 1) := by decide +kernel
theorem dX12_init_224 : decode cX12_init 224 = .ok (.iconst 3, 1) := by decide +kernel
theorem dX12_init_225 : decode cX12_init 225 = .ok (.invokevirtual 56, 3) := by decide +kernel
theorem dX12_init_228 : decode cX12_init 228 = .ok (.aload_n 0, 1) := by decide +kernel
theorem dX12_init_229 : decode cX12_init 229 = .ok (.iconst 2, 1) := by decide +kernel
theorem dX12_init_230 : decode cX12_init 230 = .ok (.iconst 1, 1) := by decide +kernel
theorem dX12_init_231 : decode cX12_init 231 = .ok (.iconst 1, 1) := by decide +kernel
theorem dX12_init_232 : decode cX12_init 232 = .ok (.invokevirtual 56, 3) := by decide +kernel
theorem dX12_init_235 : decode cX12_init 235 = .ok (.aload_n 0, 1) := by decide +kernel
theorem dX12_init_236 : decode cX12_init 236 = .ok (.getfield 7, 3) := by decide +kernel
theorem dX12_init_239 : decode cX12_init 239 = .ok (.bipush 9, 2) := by decide +kernel
theorem dX12_init_241 : decode cX12_init 241 = .ok (.aload_n 0, 1) := by decide +kernel
theorem dX12_init_242 : decode cX12_init 242 = .ok (.invokevirtual 59, 3) := by decide +kernel
theorem dX12_init_245 : decode cX12_init 245 = .ok (.iastore, 1) := by decide +kernel
theorem dX12_init_246 : decode cX12_init 246 = .ok (.return_, 1) := by decide +kernel
theorem dX12_thrown_0 : decode cX12_thrown 0 = .ok (.aload_n 0, 1) := by decide +kernel
theorem dX12_thrown_1 : decode cX12_thrown 1 = .ok (.getfield 63, 3) := by decide +kernel
theorem dX12_thrown_4 : decode cX12_thrown 4 = .ok (.ireturn, 1) := by decide +kernel
theorem dX12_in_0 : decode cX12_in 0 = .ok (.lload_n 0, 1) := by decide +kernel
theorem dX12_in_1 : decode cX12_in 1 = .ok (.lload_n 2, 1) := by decide +kernel
theorem dX12_in_2 : decode cX12_in 2 = .ok (.lcmp, 1) := by decide +kernel
theorem dX12_in_3 : decode cX12_in 3 = .ok (.ifCond .lt 14, 3) := by decide +kernel
theorem dX12_in_6 : decode cX12_in 6 = .ok (.lload_n 0, 1) := by decide +kernel
theorem dX12_in_7 : decode cX12_in 7 = .ok (.lload 4, 2) := by decide +kernel
theorem dX12_in_9 : decode cX12_in 9 = .ok (.lcmp, 1) := by decide +kernel
theorem dX12_in_10 : decode cX12_in 10 = .ok (.ifCond .gt 7, 3) := by decide +kernel
theorem dX12_in_13 : decode cX12_in 13 = .ok (.iconst 1, 1) := by decide +kernel
theorem dX12_in_14 : decode cX12_in 14 = .ok (.goto 4, 3) := by decide +kernel
theorem dX12_in_17 : decode cX12_in 17 = .ok (.iconst 0, 1) := by decide +kernel
theorem dX12_in_18 : decode cX12_in 18 = .ok (.ireturn, 1) := by decide +kernel
theorem dX12_flag_0 : decode cX12_flag 0 = .ok (.iload_n 0, 1) := by decide +kernel
theorem dX12_flag_1 : decode cX12_flag 1 = .ok (.ifCond .eq 7, 3) := by decide +kernel
theorem dX12_flag_4 : decode cX12_flag 4 = .ok (.iconst 1, 1) := by decide +kernel
theorem dX12_flag_5 : decode cX12_flag 5 = .ok (.goto 4, 3) := by decide +kernel
theorem dX12_flag_8 : decode cX12_flag 8 = .ok (.iconst 0, 1) := by decide +kernel
theorem dX12_flag_9 : decode cX12_flag 9 = .ok (.ireturn, 1) := by decide +kernel
theorem dX12_bare_0 : decode cX12_bare 0 = .ok (.iload_n 0, 1) := by decide +kernel
theorem dX12_bare_1 : decode cX12_bare 1 = .ok (.ifCond .ge 8, 3) := by decide +kernel
theorem dX12_bare_4 : decode cX12_bare 4 = .ok (.iload_n 0, 1) := by decide +kernel
theorem dX12_bare_5 : decode cX12_bare 5 = .ok (.ineg, 1) := by decide +kernel
theorem dX12_bare_6 : decode cX12_bare 6 = .ok (.goto 4, 3) := by decide +kernel
theorem dX12_bare_9 : decode cX12_bare 9 = .ok (.iload_n 0, 1) := by decide +kernel
theorem dX12_bare_10 : decode cX12_bare 10 = .ok (.ireturn, 1) := by decide +kernel
theorem dX12_lesser_0 : decode cX12_lesser 0 = .ok (.iload_n 0, 1) := by decide +kernel
theorem dX12_lesser_1 : decode cX12_lesser 1 = .ok (.iload_n 1, 1) := by decide +kernel
theorem dX12_lesser_2 : decode cX12_lesser 2 = .ok (.if_icmp .ge 7, 3) := by decide +kernel
theorem dX12_lesser_5 : decode cX12_lesser 5 = .ok (.iload_n 0, 1) := by decide +kernel
theorem dX12_lesser_6 : decode cX12_lesser 6 = .ok (.goto 4, 3) := by decide +kernel
theorem dX12_lesser_9 : decode cX12_lesser 9 = .ok (.iload_n 1, 1) := by decide +kernel
theorem dX12_lesser_10 : decode cX12_lesser 10 = .ok (.ireturn, 1) := by decide +kernel
theorem dX12_greater_0 : decode cX12_greater 0 = .ok (.iload_n 0, 1) := by decide +kernel
theorem dX12_greater_1 : decode cX12_greater 1 = .ok (.iload_n 1, 1) := by decide +kernel
theorem dX12_greater_2 : decode cX12_greater 2 = .ok (.if_icmp .le 7, 3) := by decide +kernel
theorem dX12_greater_5 : decode cX12_greater 5 = .ok (.iload_n 0, 1) := by decide +kernel
theorem dX12_greater_6 : decode cX12_greater 6 = .ok (.goto 4, 3) := by decide +kernel
theorem dX12_greater_9 : decode cX12_greater 9 = .ok (.iload_n 1, 1) := by decide +kernel
theorem dX12_greater_10 : decode cX12_greater 10 = .ok (.ireturn, 1) := by decide +kernel
theorem dX12_stops_0 : decode cX12_stops 0 = .ok (.aload_n 0, 1) := by decide +kernel
theorem dX12_stops_1 : decode cX12_stops 1 = .ok (.getfield 63, 3) := by decide +kernel
theorem dX12_stops_4 : decode cX12_stops 4 = .ok (.ifCond .ne 12, 3) := by decide +kernel
theorem dX12_stops_7 : decode cX12_stops 7 = .ok (.iload_n 1, 1) := by decide +kernel
theorem dX12_stops_8 : decode cX12_stops 8 = .ok (.ifCond .eq 8, 3) := by decide +kernel
theorem dX12_stops_11 : decode cX12_stops 11 = .ok (.aload_n 0, 1) := by decide +kernel
theorem dX12_stops_12 : decode cX12_stops 12 = .ok (.iload_n 2, 1) := by decide +kernel
theorem dX12_stops_13 : decode cX12_stops 13 = .ok (.putfield 63, 3) := by decide +kernel
theorem dX12_stops_16 : decode cX12_stops 16 = .ok (.aload_n 0, 1) := by decide +kernel
theorem dX12_stops_17 : decode cX12_stops 17 = .ok (.getfield 63, 3) := by decide +kernel
theorem dX12_stops_20 : decode cX12_stops 20 = .ok (.ifCond .eq 7, 3) := by decide +kernel
theorem dX12_stops_23 : decode cX12_stops 23 = .ok (.iconst 1, 1) := by decide +kernel
theorem dX12_stops_24 : decode cX12_stops 24 = .ok (.goto 4, 3) := by decide +kernel
theorem dX12_stops_27 : decode cX12_stops 27 = .ok (.iconst 0, 1) := by decide +kernel
theorem dX12_stops_28 : decode cX12_stops 28 = .ok (.ireturn, 1) := by decide +kernel
theorem dX12_copies_0 : decode cX12_copies 0 = .ok (.iconst 0, 1) := by decide +kernel
theorem dX12_copies_1 : decode cX12_copies 1 = .ok (.istore 4, 2) := by decide +kernel
theorem dX12_copies_3 : decode cX12_copies 3 = .ok (.iload 4, 2) := by decide +kernel
theorem dX12_copies_5 : decode cX12_copies 5 = .ok (.sipush 293, 3) := by decide +kernel
theorem dX12_copies_8 : decode cX12_copies 8 = .ok (.if_icmp .ge 21, 3) := by decide +kernel
theorem dX12_copies_11 : decode cX12_copies 11 = .ok (.aload_n 2, 1) := by decide +kernel
theorem dX12_copies_12 : decode cX12_copies 12 = .ok (.iload_n 3, 1) := by decide +kernel
theorem dX12_copies_13 : decode cX12_copies 13 = .ok (.iload 4, 2) := by decide +kernel
theorem dX12_copies_15 : decode cX12_copies 15 = .ok (.iadd, 1) := by decide +kernel
theorem dX12_copies_16 : decode cX12_copies 16 = .ok (.aload_n 0, 1) := by decide +kernel
theorem dX12_copies_17 : decode cX12_copies 17 = .ok (.iload_n 1, 1) := by decide +kernel
theorem dX12_copies_18 : decode cX12_copies 18 = .ok (.iload 4, 2) := by decide +kernel
theorem dX12_copies_20 : decode cX12_copies 20 = .ok (.iadd, 1) := by decide +kernel
theorem dX12_copies_21 : decode cX12_copies 21 = .ok (.iaload, 1) := by decide +kernel
theorem dX12_copies_22 : decode cX12_copies 22 = .ok (.iastore, 1) := by decide +kernel
theorem dX12_copies_23 : decode cX12_copies 23 = .ok (.iinc 4 1, 3) := by decide +kernel
theorem dX12_copies_26 : decode cX12_copies 26 = .ok (.goto (-23), 3) := by decide +kernel
theorem dX12_copies_29 : decode cX12_copies 29 = .ok (.return_, 1) := by decide +kernel
theorem dX12_atBoard_0 : decode cX12_atBoard 0 = .ok (.bipush 14, 2) := by decide +kernel
theorem dX12_atBoard_2 : decode cX12_atBoard 2 = .ok (.bipush 15, 2) := by decide +kernel
theorem dX12_atBoard_4 : decode cX12_atBoard 4 = .ok (.iload_n 0, 1) := by decide +kernel
theorem dX12_atBoard_5 : decode cX12_atBoard 5 = .ok (.imul, 1) := by decide +kernel
theorem dX12_atBoard_6 : decode cX12_atBoard 6 = .ok (.iadd, 1) := by decide +kernel
theorem dX12_atBoard_7 : decode cX12_atBoard 7 = .ok (.iload_n 1, 1) := by decide +kernel
theorem dX12_atBoard_8 : decode cX12_atBoard 8 = .ok (.iadd, 1) := by decide +kernel
theorem dX12_atBoard_9 : decode cX12_atBoard 9 = .ok (.ireturn, 1) := by decide +kernel
theorem dX12_atTrader_0 : decode cX12_atTrader 0 = .ok (.bipush 89, 2) := by decide +kernel
theorem dX12_atTrader_2 : decode cX12_atTrader 2 = .ok (.bipush 7, 2) := by decide +kernel
theorem dX12_atTrader_4 : decode cX12_atTrader 4 = .ok (.iload_n 0, 1) := by decide +kernel
theorem dX12_atTrader_5 : decode cX12_atTrader 5 = .ok (.imul, 1) := by decide +kernel
theorem dX12_atTrader_6 : decode cX12_atTrader 6 = .ok (.iadd, 1) := by decide +kernel
theorem dX12_atTrader_7 : decode cX12_atTrader 7 = .ok (.iload_n 1, 1) := by decide +kernel
theorem dX12_atTrader_8 : decode cX12_atTrader 8 = .ok (.iadd, 1) := by decide +kernel
theorem dX12_atTrader_9 : decode cX12_atTrader 9 = .ok (.ireturn, 1) := by decide +kernel
theorem dX12_atSeat_0 : decode cX12_atSeat 0 = .ok (.iload_n 0, 1) := by decide +kernel
theorem dX12_atSeat_1 : decode cX12_atSeat 1 = .ok (.iconst 3, 1) := by decide +kernel
theorem dX12_atSeat_2 : decode cX12_atSeat 2 = .ok (.iload_n 1, 1) := by decide +kernel
theorem dX12_atSeat_3 : decode cX12_atSeat 3 = .ok (.iadd, 1) := by decide +kernel
theorem dX12_atSeat_4 : decode cX12_atSeat 4 = .ok (.iload_n 1, 1) := by decide +kernel
theorem dX12_atSeat_5 : decode cX12_atSeat 5 = .ok (.ifCond .ge 8, 3) := by decide +kernel
theorem dX12_atSeat_8 : decode cX12_atSeat 8 = .ok (.bipush 6, 2) := by decide +kernel
theorem dX12_atSeat_10 : decode cX12_atSeat 10 = .ok (.goto 4, 3) := by decide +kernel
theorem dX12_atSeat_13 : decode cX12_atSeat 13 = .ok (.iconst 5, 1) := by decide +kernel
theorem dX12_atSeat_14 : decode cX12_atSeat 14 = .ok (.iadd, 1) := by decide +kernel
theorem dX12_atSeat_15 : decode cX12_atSeat 15 = .ok (.invokestatic 66, 3) := by decide +kernel
theorem dX12_atSeat_18 : decode cX12_atSeat 18 = .ok (.ireturn, 1) := by decide +kernel
theorem dX12_ofBoard_0 : decode cX12_ofBoard 0 = .ok (.aload_n 0, 1) := by decide +kernel
theorem dX12_ofBoard_1 : decode cX12_ofBoard 1 = .ok (.getfield 7, 3) := by decide +kernel
theorem dX12_ofBoard_4 : decode cX12_ofBoard 4 = .ok (.iload_n 1, 1) := by decide +kernel
theorem dX12_ofBoard_5 : decode cX12_ofBoard 5 = .ok (.iload_n 2, 1) := by decide +kernel
theorem dX12_ofBoard_6 : decode cX12_ofBoard 6 = .ok (.invokestatic 66, 3) := by decide +kernel
theorem dX12_ofBoard_9 : decode cX12_ofBoard 9 = .ok (.iaload, 1) := by decide +kernel
theorem dX12_ofBoard_10 : decode cX12_ofBoard 10 = .ok (.ireturn, 1) := by decide +kernel
theorem dX12_has_0 : decode cX12_has 0 = .ok (.aload_n 0, 1) := by decide +kernel
theorem dX12_has_1 : decode cX12_has 1 = .ok (.getfield 7, 3) := by decide +kernel
theorem dX12_has_4 : decode cX12_has 4 = .ok (.iload_n 1, 1) := by decide +kernel
theorem dX12_has_5 : decode cX12_has 5 = .ok (.iload_n 2, 1) := by decide +kernel
theorem dX12_has_6 : decode cX12_has 6 = .ok (.invokestatic 70, 3) := by decide +kernel
theorem dX12_has_9 : decode cX12_has 9 = .ok (.iaload, 1) := by decide +kernel
theorem dX12_has_10 : decode cX12_has 10 = .ok (.ireturn, 1) := by decide +kernel
theorem dX12_onSeat_0 : decode cX12_onSeat 0 = .ok (.aload_n 0, 1) := by decide +kernel
theorem dX12_onSeat_1 : decode cX12_onSeat 1 = .ok (.getfield 7, 3) := by decide +kernel
theorem dX12_onSeat_4 : decode cX12_onSeat 4 = .ok (.iload_n 1, 1) := by decide +kernel
theorem dX12_onSeat_5 : decode cX12_onSeat 5 = .ok (.iload_n 2, 1) := by decide +kernel
theorem dX12_onSeat_6 : decode cX12_onSeat 6 = .ok (.invokestatic 73, 3) := by decide +kernel
theorem dX12_onSeat_9 : decode cX12_onSeat 9 = .ok (.iaload, 1) := by decide +kernel
theorem dX12_onSeat_10 : decode cX12_onSeat 10 = .ok (.iconst 1, 1) := by decide +kernel
theorem dX12_onSeat_11 : decode cX12_onSeat 11 = .ok (.isub, 1) := by decide +kernel
theorem dX12_onSeat_12 : decode cX12_onSeat 12 = .ok (.ireturn, 1) := by decide +kernel
theorem dX12_isSeated_0 : decode cX12_isSeated 0 = .ok (.aload_n 0, 1) := by decide +kernel
theorem dX12_isSeated_1 : decode cX12_isSeated 1 = .ok (.iload_n 1, 1) := by decide +kernel
theorem dX12_isSeated_2 : decode cX12_isSeated 2 = .ok (.iconst 5, 1) := by decide +kernel
theorem dX12_isSeated_3 : decode cX12_isSeated 3 = .ok (.invokevirtual 76, 3) := by decide +kernel
theorem dX12_isSeated_6 : decode cX12_isSeated 6 = .ok (.iconst (-1), 1) := by decide +kernel
theorem dX12_isSeated_7 : decode cX12_isSeated 7 = .ok (.if_icmp .eq 7, 3) := by decide +kernel
theorem dX12_isSeated_10 : decode cX12_isSeated 10 = .ok (.iconst 1, 1) := by decide +kernel
theorem dX12_isSeated_11 : decode cX12_isSeated 11 = .ok (.goto 4, 3) := by decide +kernel
theorem dX12_isSeated_14 : decode cX12_isSeated 14 = .ok (.iconst 0, 1) := by decide +kernel
theorem dX12_isSeated_15 : decode cX12_isSeated 15 = .ok (.ireturn, 1) := by decide +kernel
theorem dX12_builds_0 : decode cX12_builds 0 = .ok (.aload_n 0, 1) := by decide +kernel
theorem dX12_builds_1 : decode cX12_builds 1 = .ok (.getfield 7, 3) := by decide +kernel
theorem dX12_builds_4 : decode cX12_builds 4 = .ok (.bipush 7, 2) := by decide +kernel
theorem dX12_builds_6 : decode cX12_builds 6 = .ok (.iaload, 1) := by decide +kernel
theorem dX12_builds_7 : decode cX12_builds 7 = .ok (.istore 4, 2) := by decide +kernel
theorem dX12_builds_9 : decode cX12_builds 9 = .ok (.aload_n 0, 1) := by decide +kernel
theorem dX12_builds_10 : decode cX12_builds 10 = .ok (.getfield 7, 3) := by decide +kernel
theorem dX12_builds_13 : decode cX12_builds 13 = .ok (.bipush 7, 2) := by decide +kernel
theorem dX12_builds_15 : decode cX12_builds 15 = .ok (.dup2, 1) := by decide +kernel
theorem dX12_builds_16 : decode cX12_builds 16 = .ok (.iaload, 1) := by decide +kernel
theorem dX12_builds_17 : decode cX12_builds 17 = .ok (.iconst 1, 1) := by decide +kernel
theorem dX12_builds_18 : decode cX12_builds 18 = .ok (.iadd, 1) := by decide +kernel
theorem dX12_builds_19 : decode cX12_builds 19 = .ok (.iastore, 1) := by decide +kernel
theorem dX12_builds_20 : decode cX12_builds 20 = .ok (.aload_n 0, 1) := by decide +kernel
theorem dX12_builds_21 : decode cX12_builds 21 = .ok (.getfield 7, 3) := by decide +kernel
theorem dX12_builds_24 : decode cX12_builds 24 = .ok (.iload 4, 2) := by decide +kernel
theorem dX12_builds_26 : decode cX12_builds 26 = .ok (.iconst 0, 1) := by decide +kernel
theorem dX12_builds_27 : decode cX12_builds 27 = .ok (.invokestatic 66, 3) := by decide +kernel
theorem dX12_builds_30 : decode cX12_builds 30 = .ok (.iload_n 1, 1) := by decide +kernel
theorem dX12_builds_31 : decode cX12_builds 31 = .ok (.iastore, 1) := by decide +kernel
theorem dX12_builds_32 : decode cX12_builds 32 = .ok (.aload_n 0, 1) := by decide +kernel
theorem dX12_builds_33 : decode cX12_builds 33 = .ok (.getfield 7, 3) := by decide +kernel
theorem dX12_builds_36 : decode cX12_builds 36 = .ok (.iload 4, 2) := by decide +kernel
theorem dX12_builds_38 : decode cX12_builds 38 = .ok (.iconst 1, 1) := by decide +kernel
theorem dX12_builds_39 : decode cX12_builds 39 = .ok (.invokestatic 66, 3) := by decide +kernel
theorem dX12_builds_42 : decode cX12_builds 42 = .ok (.iload_n 2, 1) := by decide +kernel
theorem dX12_builds_43 : decode cX12_builds 43 = .ok (.iastore, 1) := by decide +kernel
theorem dX12_builds_44 : decode cX12_builds 44 = .ok (.aload_n 0, 1) := by decide +kernel
theorem dX12_builds_45 : decode cX12_builds 45 = .ok (.getfield 7, 3) := by decide +kernel
theorem dX12_builds_48 : decode cX12_builds 48 = .ok (.iload 4, 2) := by decide +kernel
theorem dX12_builds_50 : decode cX12_builds 50 = .ok (.iconst 2, 1) := by decide +kernel
theorem dX12_builds_51 : decode cX12_builds 51 = .ok (.invokestatic 66, 3) := by decide +kernel
theorem dX12_builds_54 : decode cX12_builds 54 = .ok (.iload_n 3, 1) := by decide +kernel
theorem dX12_builds_55 : decode cX12_builds 55 = .ok (.iastore, 1) := by decide +kernel
theorem dX12_builds_56 : decode cX12_builds 56 = .ok (.return_, 1) := by decide +kernel
theorem dX12_appears_0 : decode cX12_appears 0 = .ok (.aload_n 0, 1) := by decide +kernel
theorem dX12_appears_1 : decode cX12_appears 1 = .ok (.getfield 7, 3) := by decide +kernel
theorem dX12_appears_4 : decode cX12_appears 4 = .ok (.bipush 8, 2) := by decide +kernel
theorem dX12_appears_6 : decode cX12_appears 6 = .ok (.iaload, 1) := by decide +kernel
theorem dX12_appears_7 : decode cX12_appears 7 = .ok (.istore 5, 2) := by decide +kernel
theorem dX12_appears_9 : decode cX12_appears 9 = .ok (.aload_n 0, 1) := by decide +kernel
theorem dX12_appears_10 : decode cX12_appears 10 = .ok (.getfield 7, 3) := by decide +kernel
theorem dX12_appears_13 : decode cX12_appears 13 = .ok (.bipush 8, 2) := by decide +kernel
theorem dX12_appears_15 : decode cX12_appears 15 = .ok (.dup2, 1) := by decide +kernel
theorem dX12_appears_16 : decode cX12_appears 16 = .ok (.iaload, 1) := by decide +kernel
theorem dX12_appears_17 : decode cX12_appears 17 = .ok (.iconst 1, 1) := by decide +kernel
theorem dX12_appears_18 : decode cX12_appears 18 = .ok (.iadd, 1) := by decide +kernel
theorem dX12_appears_19 : decode cX12_appears 19 = .ok (.iastore, 1) := by decide +kernel
theorem dX12_appears_20 : decode cX12_appears 20 = .ok (.aload_n 0, 1) := by decide +kernel
theorem dX12_appears_21 : decode cX12_appears 21 = .ok (.getfield 7, 3) := by decide +kernel
theorem dX12_appears_24 : decode cX12_appears 24 = .ok (.iload 5, 2) := by decide +kernel
theorem dX12_appears_26 : decode cX12_appears 26 = .ok (.iconst 0, 1) := by decide +kernel
theorem dX12_appears_27 : decode cX12_appears 27 = .ok (.invokestatic 70, 3) := by decide +kernel
theorem dX12_appears_30 : decode cX12_appears 30 = .ok (.iload_n 1, 1) := by decide +kernel
theorem dX12_appears_31 : decode cX12_appears 31 = .ok (.iastore, 1) := by decide +kernel
theorem dX12_appears_32 : decode cX12_appears 32 = .ok (.aload_n 0, 1) := by decide +kernel
theorem dX12_appears_33 : decode cX12_appears 33 = .ok (.getfield 7, 3) := by decide +kernel
theorem dX12_appears_36 : decode cX12_appears 36 = .ok (.iload 5, 2) := by decide +kernel
theorem dX12_appears_38 : decode cX12_appears 38 = .ok (.iconst 1, 1) := by decide +kernel
theorem dX12_appears_39 : decode cX12_appears 39 = .ok (.invokestatic 70, 3) := by decide +kernel
theorem dX12_appears_42 : decode cX12_appears 42 = .ok (.iload_n 2, 1) := by decide +kernel
theorem dX12_appears_43 : decode cX12_appears 43 = .ok (.iastore, 1) := by decide +kernel
theorem dX12_appears_44 : decode cX12_appears 44 = .ok (.aload_n 0, 1) := by decide +kernel
theorem dX12_appears_45 : decode cX12_appears 45 = .ok (.getfield 7, 3) := by decide +kernel
theorem dX12_appears_48 : decode cX12_appears 48 = .ok (.iload 5, 2) := by decide +kernel
theorem dX12_appears_50 : decode cX12_appears 50 = .ok (.iconst 2, 1) := by decide +kernel
theorem dX12_appears_51 : decode cX12_appears 51 = .ok (.invokestatic 70, 3) := by decide +kernel
theorem dX12_appears_54 : decode cX12_appears 54 = .ok (.iload_n 3, 1) := by decide +kernel
theorem dX12_appears_55 : decode cX12_appears 55 = .ok (.iastore, 1) := by decide +kernel
theorem dX12_appears_56 : decode cX12_appears 56 = .ok (.aload_n 0, 1) := by decide +kernel
theorem dX12_appears_57 : decode cX12_appears 57 = .ok (.getfield 7, 3) := by decide +kernel
theorem dX12_appears_60 : decode cX12_appears 60 = .ok (.iload 5, 2) := by decide +kernel
theorem dX12_appears_62 : decode cX12_appears 62 = .ok (.iconst 3, 1) := by decide +kernel
theorem dX12_appears_63 : decode cX12_appears 63 = .ok (.invokestatic 70, 3) := by decide +kernel
theorem dX12_appears_66 : decode cX12_appears 66 = .ok (.iload 4, 2) := by decide +kernel
theorem dX12_appears_68 : decode cX12_appears 68 = .ok (.iastore, 1) := by decide +kernel
theorem dX12_appears_69 : decode cX12_appears 69 = .ok (.aload_n 0, 1) := by decide +kernel
theorem dX12_appears_70 : decode cX12_appears 70 = .ok (.getfield 7, 3) := by decide +kernel
theorem dX12_appears_73 : decode cX12_appears 73 = .ok (.iload 5, 2) := by decide +kernel
theorem dX12_appears_75 : decode cX12_appears 75 = .ok (.iconst 4, 1) := by decide +kernel
theorem dX12_appears_76 : decode cX12_appears 76 = .ok (.invokestatic 70, 3) := by decide +kernel
theorem dX12_appears_79 : decode cX12_appears 79 = .ok (.iconst 1, 1) := by decide +kernel
theorem dX12_appears_80 : decode cX12_appears 80 = .ok (.iastore, 1) := by decide +kernel
theorem dX12_appears_81 : decode cX12_appears 81 = .ok (.aload_n 0, 1) := by decide +kernel
theorem dX12_appears_82 : decode cX12_appears 82 = .ok (.getfield 7, 3) := by decide +kernel
theorem dX12_appears_85 : decode cX12_appears 85 = .ok (.iload 5, 2) := by decide +kernel
theorem dX12_appears_87 : decode cX12_appears 87 = .ok (.iconst 5, 1) := by decide +kernel
theorem dX12_appears_88 : decode cX12_appears 88 = .ok (.invokestatic 70, 3) := by decide +kernel
theorem dX12_appears_91 : decode cX12_appears 91 = .ok (.iconst (-1), 1) := by decide +kernel
theorem dX12_appears_92 : decode cX12_appears 92 = .ok (.iastore, 1) := by decide +kernel
theorem dX12_appears_93 : decode cX12_appears 93 = .ok (.aload_n 0, 1) := by decide +kernel
theorem dX12_appears_94 : decode cX12_appears 94 = .ok (.getfield 7, 3) := by decide +kernel
theorem dX12_appears_97 : decode cX12_appears 97 = .ok (.iload 5, 2) := by decide +kernel
theorem dX12_appears_99 : decode cX12_appears 99 = .ok (.bipush 6, 2) := by decide +kernel
theorem dX12_appears_101 : decode cX12_appears 101 = .ok (.invokestatic 70, 3) := by decide +kernel
theorem dX12_appears_104 : decode cX12_appears 104 = .ok (.iconst 0, 1) := by decide +kernel
theorem dX12_appears_105 : decode cX12_appears 105 = .ok (.iastore, 1) := by decide +kernel
theorem dX12_appears_106 : decode cX12_appears 106 = .ok (.return_, 1) := by decide +kernel
theorem dX12_sits_0 : decode cX12_sits 0 = .ok (.aload_n 0, 1) := by decide +kernel
theorem dX12_sits_1 : decode cX12_sits 1 = .ok (.getfield 7, 3) := by decide +kernel
theorem dX12_sits_4 : decode cX12_sits 4 = .ok (.iload_n 2, 1) := by decide +kernel
theorem dX12_sits_5 : decode cX12_sits 5 = .ok (.iload_n 3, 1) := by decide +kernel
theorem dX12_sits_6 : decode cX12_sits 6 = .ok (.invokestatic 73, 3) := by decide +kernel
theorem dX12_sits_9 : decode cX12_sits 9 = .ok (.iload_n 1, 1) := by decide +kernel
theorem dX12_sits_10 : decode cX12_sits 10 = .ok (.iconst 1, 1) := by decide +kernel
theorem dX12_sits_11 : decode cX12_sits 11 = .ok (.iadd, 1) := by decide +kernel
theorem dX12_sits_12 : decode cX12_sits 12 = .ok (.iastore, 1) := by decide +kernel
theorem dX12_sits_13 : decode cX12_sits 13 = .ok (.aload_n 0, 1) := by decide +kernel
theorem dX12_sits_14 : decode cX12_sits 14 = .ok (.getfield 7, 3) := by decide +kernel
theorem dX12_sits_17 : decode cX12_sits 17 = .ok (.iload_n 1, 1) := by decide +kernel
theorem dX12_sits_18 : decode cX12_sits 18 = .ok (.iconst 5, 1) := by decide +kernel
theorem dX12_sits_19 : decode cX12_sits 19 = .ok (.invokestatic 70, 3) := by decide +kernel
theorem dX12_sits_22 : decode cX12_sits 22 = .ok (.iload_n 2, 1) := by decide +kernel
theorem dX12_sits_23 : decode cX12_sits 23 = .ok (.iastore, 1) := by decide +kernel
theorem dX12_sits_24 : decode cX12_sits 24 = .ok (.aload_n 0, 1) := by decide +kernel
theorem dX12_sits_25 : decode cX12_sits 25 = .ok (.getfield 7, 3) := by decide +kernel
theorem dX12_sits_28 : decode cX12_sits 28 = .ok (.iload_n 1, 1) := by decide +kernel
theorem dX12_sits_29 : decode cX12_sits 29 = .ok (.bipush 6, 2) := by decide +kernel
theorem dX12_sits_31 : decode cX12_sits 31 = .ok (.invokestatic 70, 3) := by decide +kernel
theorem dX12_sits_34 : decode cX12_sits 34 = .ok (.iload_n 3, 1) := by decide +kernel
theorem dX12_sits_35 : decode cX12_sits 35 = .ok (.iastore, 1) := by decide +kernel
theorem dX12_sits_36 : decode cX12_sits 36 = .ok (.return_, 1) := by decide +kernel
theorem dX12_rises_0 : decode cX12_rises 0 = .ok (.aload_n 0, 1) := by decide +kernel
theorem dX12_rises_1 : decode cX12_rises 1 = .ok (.iload_n 1, 1) := by decide +kernel
theorem dX12_rises_2 : decode cX12_rises 2 = .ok (.invokevirtual 79, 3) := by decide +kernel
theorem dX12_rises_5 : decode cX12_rises 5 = .ok (.ifCond .ne 4, 3) := by decide +kernel
theorem dX12_rises_8 : decode cX12_rises 8 = .ok (.return_, 1) := by decide +kernel
theorem dX12_rises_9 : decode cX12_rises 9 = .ok (.aload_n 0, 1) := by decide +kernel
theorem dX12_rises_10 : decode cX12_rises 10 = .ok (.getfield 7, 3) := by decide +kernel
theorem dX12_rises_13 : decode cX12_rises 13 = .ok (.aload_n 0, 1) := by decide +kernel
theorem dX12_rises_14 : decode cX12_rises 14 = .ok (.iload_n 1, 1) := by decide +kernel
theorem dX12_rises_15 : decode cX12_rises 15 = .ok (.iconst 5, 1) := by decide +kernel
theorem dX12_rises_16 : decode cX12_rises 16 = .ok (.invokevirtual 76, 3) := by decide +kernel
theorem dX12_rises_19 : decode cX12_rises 19 = .ok (.aload_n 0, 1) := by decide +kernel
theorem dX12_rises_20 : decode cX12_rises 20 = .ok (.iload_n 1, 1) := by decide +kernel
theorem dX12_rises_21 : decode cX12_rises 21 = .ok (.bipush 6, 2) := by decide +kernel
theorem dX12_rises_23 : decode cX12_rises 23 = .ok (.invokevirtual 76, 3) := by decide +kernel
theorem dX12_rises_26 : decode cX12_rises 26 = .ok (.invokestatic 73, 3) := by decide +kernel
theorem dX12_rises_29 : decode cX12_rises 29 = .ok (.iconst 0, 1) := by decide +kernel
theorem dX12_rises_30 : decode cX12_rises 30 = .ok (.iastore, 1) := by decide +kernel
theorem dX12_rises_31 : decode cX12_rises 31 = .ok (.aload_n 0, 1) := by decide +kernel
theorem dX12_rises_32 : decode cX12_rises 32 = .ok (.getfield 7, 3) := by decide +kernel
theorem dX12_rises_35 : decode cX12_rises 35 = .ok (.iload_n 1, 1) := by decide +kernel
theorem dX12_rises_36 : decode cX12_rises 36 = .ok (.iconst 5, 1) := by decide +kernel
theorem dX12_rises_37 : decode cX12_rises 37 = .ok (.invokestatic 70, 3) := by decide +kernel
theorem dX12_rises_40 : decode cX12_rises 40 = .ok (.iconst (-1), 1) := by decide +kernel
theorem dX12_rises_41 : decode cX12_rises 41 = .ok (.iastore, 1) := by decide +kernel
theorem dX12_rises_42 : decode cX12_rises 42 = .ok (.aload_n 0, 1) := by decide +kernel
theorem dX12_rises_43 : decode cX12_rises 43 = .ok (.getfield 7, 3) := by decide +kernel
theorem dX12_rises_46 : decode cX12_rises 46 = .ok (.iload_n 1, 1) := by decide +kernel
theorem dX12_rises_47 : decode cX12_rises 47 = .ok (.bipush 6, 2) := by decide +kernel
theorem dX12_rises_49 : decode cX12_rises 49 = .ok (.invokestatic 70, 3) := by decide +kernel
theorem dX12_rises_52 : decode cX12_rises 52 = .ok (.iconst 0, 1) := by decide +kernel
theorem dX12_rises_53 : decode cX12_rises 53 = .ok (.iastore, 1) := by decide +kernel
theorem dX12_rises_54 : decode cX12_rises 54 = .ok (.return_, 1) := by decide +kernel
theorem dX12_allCoins_0 : decode cX12_allCoins 0 = .ok (.aload_n 0, 1) := by decide +kernel
theorem dX12_allCoins_1 : decode cX12_allCoins 1 = .ok (.getfield 7, 3) := by decide +kernel
theorem dX12_allCoins_4 : decode cX12_allCoins 4 = .ok (.iconst 5, 1) := by decide +kernel
theorem dX12_allCoins_5 : decode cX12_allCoins 5 = .ok (.iaload, 1) := by decide +kernel
theorem dX12_allCoins_6 : decode cX12_allCoins 6 = .ok (.istore_n 1, 1) := by decide +kernel
theorem dX12_allCoins_7 : decode cX12_allCoins 7 = .ok (.iconst 0, 1) := by decide +kernel
theorem dX12_allCoins_8 : decode cX12_allCoins 8 = .ok (.istore_n 2, 1) := by decide +kernel
theorem dX12_allCoins_9 : decode cX12_allCoins 9 = .ok (.iload_n 2, 1) := by decide +kernel
theorem dX12_allCoins_10 : decode cX12_allCoins 10 = .ok (.aload_n 0, 1) := by decide +kernel
theorem dX12_allCoins_11 : decode cX12_allCoins 11 = .ok (.getfield 7, 3) := by decide +kernel
theorem dX12_allCoins_14 : decode cX12_allCoins 14 = .ok (.bipush 8, 2) := by decide +kernel
theorem dX12_allCoins_16 : decode cX12_allCoins 16 = .ok (.iaload, 1) := by decide +kernel
theorem dX12_allCoins_17 : decode cX12_allCoins 17 = .ok (.if_icmp .ge 18, 3) := by decide +kernel
theorem dX12_allCoins_20 : decode cX12_allCoins 20 = .ok (.iload_n 1, 1) := by decide +kernel
theorem dX12_allCoins_21 : decode cX12_allCoins 21 = .ok (.aload_n 0, 1) := by decide +kernel
theorem dX12_allCoins_22 : decode cX12_allCoins 22 = .ok (.iload_n 2, 1) := by decide +kernel
theorem dX12_allCoins_23 : decode cX12_allCoins 23 = .ok (.iconst 2, 1) := by decide +kernel
theorem dX12_allCoins_24 : decode cX12_allCoins 24 = .ok (.invokevirtual 76, 3) := by decide +kernel
theorem dX12_allCoins_27 : decode cX12_allCoins 27 = .ok (.iadd, 1) := by decide +kernel
theorem dX12_allCoins_28 : decode cX12_allCoins 28 = .ok (.istore_n 1, 1) := by decide +kernel
theorem dX12_allCoins_29 : decode cX12_allCoins 29 = .ok (.iinc 2 1, 3) := by decide +kernel
theorem dX12_allCoins_32 : decode cX12_allCoins 32 = .ok (.goto (-23), 3) := by decide +kernel
theorem dX12_allCoins_35 : decode cX12_allCoins 35 = .ok (.iload_n 1, 1) := by decide +kernel
theorem dX12_allCoins_36 : decode cX12_allCoins 36 = .ok (.ireturn, 1) := by decide +kernel
theorem dX12_traderNamed_0 : decode cX12_traderNamed 0 = .ok (.iconst 0, 1) := by decide +kernel
theorem dX12_traderNamed_1 : decode cX12_traderNamed 1 = .ok (.istore_n 2, 1) := by decide +kernel
theorem dX12_traderNamed_2 : decode cX12_traderNamed 2 = .ok (.iload_n 2, 1) := by decide +kernel
theorem dX12_traderNamed_3 : decode cX12_traderNamed 3 = .ok (.aload_n 0, 1) := by decide +kernel
theorem dX12_traderNamed_4 : decode cX12_traderNamed 4 = .ok (.getfield 7, 3) := by decide +kernel
theorem dX12_traderNamed_7 : decode cX12_traderNamed 7 = .ok (.bipush 8, 2) := by decide +kernel
theorem dX12_traderNamed_9 : decode cX12_traderNamed 9 = .ok (.iaload, 1) := by decide +kernel
theorem dX12_traderNamed_10 : decode cX12_traderNamed 10 = .ok (.if_icmp .ge 21, 3) := by decide +kernel
theorem dX12_traderNamed_13 : decode cX12_traderNamed 13 = .ok (.aload_n 0, 1) := by decide +kernel
theorem dX12_traderNamed_14 : decode cX12_traderNamed 14 = .ok (.iload_n 2, 1) := by decide +kernel
theorem dX12_traderNamed_15 : decode cX12_traderNamed 15 = .ok (.iconst 0, 1) := by decide +kernel
theorem dX12_traderNamed_16 : decode cX12_traderNamed 16 = .ok (.invokevirtual 76, 3) := by decide +kernel
theorem dX12_traderNamed_19 : decode cX12_traderNamed 19 = .ok (.iload_n 1, 1) := by decide +kernel
theorem dX12_traderNamed_20 : decode cX12_traderNamed 20 = .ok (.if_icmp .ne 5, 3) := by decide +kernel
theorem dX12_traderNamed_23 : decode cX12_traderNamed 23 = .ok (.iload_n 2, 1) := by decide +kernel
theorem dX12_traderNamed_24 : decode cX12_traderNamed 24 = .ok (.ireturn, 1) := by decide +kernel
theorem dX12_traderNamed_25 : decode cX12_traderNamed 25 = .ok (.iinc 2 1, 3) := by decide +kernel
theorem dX12_traderNamed_28 : decode cX12_traderNamed 28 = .ok (.goto (-26), 3) := by decide +kernel
theorem dX12_traderNamed_31 : decode cX12_traderNamed 31 = .ok (.iconst (-1), 1) := by decide +kernel
theorem dX12_traderNamed_32 : decode cX12_traderNamed 32 = .ok (.ireturn, 1) := by decide +kernel
theorem dX12_isPosition_0 : decode cX12_isPosition 0 = .ok (.iload_n 2, 1) := by decide +kernel
theorem dX12_isPosition_1 : decode cX12_isPosition 1 = .ok (.ifCond .eq 30, 3) := by decide +kernel
theorem dX12_isPosition_4 : decode cX12_isPosition 4 = .ok (.iload_n 2, 1) := by decide +kernel
theorem dX12_isPosition_5 : decode cX12_isPosition 5 = .ok (.i2l, 1) := by decide +kernel
theorem dX12_isPosition_6 : decode cX12_isPosition 6 = .ok (.aload_n 0, 1) := by decide +kernel
theorem dX12_isPosition_7 : decode cX12_isPosition 7 = .ok (.iload_n 1, 1) := by decide +kernel
theorem dX12_isPosition_8 : decode cX12_isPosition 8 = .ok (.iconst 0, 1) := by decide +kernel
theorem dX12_isPosition_9 : decode cX12_isPosition 9 = .ok (.invokevirtual 83, 3) := by decide +kernel
theorem dX12_isPosition_12 : decode cX12_isPosition 12 = .ok (.ineg, 1) := by decide +kernel
theorem dX12_isPosition_13 : decode cX12_isPosition 13 = .ok (.i2l, 1) := by decide +kernel
theorem dX12_isPosition_14 : decode cX12_isPosition 14 = .ok (.aload_n 0, 1) := by decide +kernel
theorem dX12_isPosition_15 : decode cX12_isPosition 15 = .ok (.iload_n 1, 1) := by decide +kernel
theorem dX12_isPosition_16 : decode cX12_isPosition 16 = .ok (.iconst 0, 1) := by decide +kernel
theorem dX12_isPosition_17 : decode cX12_isPosition 17 = .ok (.invokevirtual 83, 3) := by decide +kernel
theorem dX12_isPosition_20 : decode cX12_isPosition 20 = .ok (.i2l, 1) := by decide +kernel
theorem dX12_isPosition_21 : decode cX12_isPosition 21 = .ok (.invokestatic 86, 3) := by decide +kernel
theorem dX12_isPosition_24 : decode cX12_isPosition 24 = .ok (.ifCond .eq 7, 3) := by decide +kernel
theorem dX12_isPosition_27 : decode cX12_isPosition 27 = .ok (.iconst 1, 1) := by decide +kernel
theorem dX12_isPosition_28 : decode cX12_isPosition 28 = .ok (.goto 4, 3) := by decide +kernel
theorem dX12_isPosition_31 : decode cX12_isPosition 31 = .ok (.iconst 0, 1) := by decide +kernel
theorem dX12_isPosition_32 : decode cX12_isPosition 32 = .ok (.ireturn, 1) := by decide +kernel
theorem dX12_torqueOf_0 : decode cX12_torqueOf 0 = .ok (.iconst 0, 1) := by decide +kernel
theorem dX12_torqueOf_1 : decode cX12_torqueOf 1 = .ok (.istore_n 2, 1) := by decide +kernel
theorem dX12_torqueOf_2 : decode cX12_torqueOf 2 = .ok (.aload_n 0, 1) := by decide +kernel
theorem dX12_torqueOf_3 : decode cX12_torqueOf 3 = .ok (.iload_n 1, 1) := by decide +kernel
theorem dX12_torqueOf_4 : decode cX12_torqueOf 4 = .ok (.iconst 0, 1) := by decide +kernel
theorem dX12_torqueOf_5 : decode cX12_torqueOf 5 = .ok (.invokevirtual 83, 3) := by decide +kernel
theorem dX12_torqueOf_8 : decode cX12_torqueOf 8 = .ok (.ineg, 1) := by decide +kernel
theorem dX12_torqueOf_9 : decode cX12_torqueOf 9 = .ok (.istore_n 3, 1) := by decide +kernel
theorem dX12_torqueOf_10 : decode cX12_torqueOf 10 = .ok (.iload_n 3, 1) := by decide +kernel
theorem dX12_torqueOf_11 : decode cX12_torqueOf 11 = .ok (.aload_n 0, 1) := by decide +kernel
theorem dX12_torqueOf_12 : decode cX12_torqueOf 12 = .ok (.iload_n 1, 1) := by decide +kernel
theorem dX12_torqueOf_13 : decode cX12_torqueOf 13 = .ok (.iconst 0, 1) := by decide +kernel
theorem dX12_torqueOf_14 : decode cX12_torqueOf 14 = .ok (.invokevirtual 83, 3) := by decide +kernel
theorem dX12_torqueOf_17 : decode cX12_torqueOf 17 = .ok (.if_icmp .gt 39, 3) := by decide +kernel
theorem dX12_torqueOf_20 : decode cX12_torqueOf 20 = .ok (.iload_n 3, 1) := by decide +kernel
theorem dX12_torqueOf_21 : decode cX12_torqueOf 21 = .ok (.ifCond .eq 29, 3) := by decide +kernel
theorem dX12_torqueOf_24 : decode cX12_torqueOf 24 = .ok (.aload_n 0, 1) := by decide +kernel
theorem dX12_torqueOf_25 : decode cX12_torqueOf 25 = .ok (.iload_n 1, 1) := by decide +kernel
theorem dX12_torqueOf_26 : decode cX12_torqueOf 26 = .ok (.iload_n 3, 1) := by decide +kernel
theorem dX12_torqueOf_27 : decode cX12_torqueOf 27 = .ok (.invokevirtual 90, 3) := by decide +kernel
theorem dX12_torqueOf_30 : decode cX12_torqueOf 30 = .ok (.iconst (-1), 1) := by decide +kernel
theorem dX12_torqueOf_31 : decode cX12_torqueOf 31 = .ok (.if_icmp .eq 19, 3) := by decide +kernel
theorem dX12_torqueOf_34 : decode cX12_torqueOf 34 = .ok (.iload_n 2, 1) := by decide +kernel
theorem dX12_torqueOf_35 : decode cX12_torqueOf 35 = .ok (.iload_n 3, 1) := by decide +kernel
theorem dX12_torqueOf_36 : decode cX12_torqueOf 36 = .ok (.aload_n 0, 1) := by decide +kernel
theorem dX12_torqueOf_37 : decode cX12_torqueOf 37 = .ok (.aload_n 0, 1) := by decide +kernel
theorem dX12_torqueOf_38 : decode cX12_torqueOf 38 = .ok (.iload_n 1, 1) := by decide +kernel
theorem dX12_torqueOf_39 : decode cX12_torqueOf 39 = .ok (.iload_n 3, 1) := by decide +kernel
theorem dX12_torqueOf_40 : decode cX12_torqueOf 40 = .ok (.invokevirtual 90, 3) := by decide +kernel
theorem dX12_torqueOf_43 : decode cX12_torqueOf 43 = .ok (.iconst 1, 1) := by decide +kernel
theorem dX12_torqueOf_44 : decode cX12_torqueOf 44 = .ok (.invokevirtual 76, 3) := by decide +kernel
theorem dX12_torqueOf_47 : decode cX12_torqueOf 47 = .ok (.imul, 1) := by decide +kernel
theorem dX12_torqueOf_48 : decode cX12_torqueOf 48 = .ok (.iadd, 1) := by decide +kernel
theorem dX12_torqueOf_49 : decode cX12_torqueOf 49 = .ok (.istore_n 2, 1) := by decide +kernel
theorem dX12_torqueOf_50 : decode cX12_torqueOf 50 = .ok (.iinc 3 1, 3) := by decide +kernel
theorem dX12_torqueOf_53 : decode cX12_torqueOf 53 = .ok (.goto (-43), 3) := by decide +kernel
theorem dX12_torqueOf_56 : decode cX12_torqueOf 56 = .ok (.iload_n 2, 1) := by decide +kernel
theorem dX12_torqueOf_57 : decode cX12_torqueOf 57 = .ok (.ireturn, 1) := by decide +kernel
theorem dX12_tiltBy_0 : decode cX12_tiltBy 0 = .ok (.bipush (-9), 2) := by decide +kernel
theorem dX12_tiltBy_2 : decode cX12_tiltBy 2 = .ok (.bipush 9, 2) := by decide +kernel
theorem dX12_tiltBy_4 : decode cX12_tiltBy 4 = .ok (.iload_n 2, 1) := by decide +kernel
theorem dX12_tiltBy_5 : decode cX12_tiltBy 5 = .ok (.aload_n 0, 1) := by decide +kernel
theorem dX12_tiltBy_6 : decode cX12_tiltBy 6 = .ok (.iload_n 1, 1) := by decide +kernel
theorem dX12_tiltBy_7 : decode cX12_tiltBy 7 = .ok (.iconst 1, 1) := by decide +kernel
theorem dX12_tiltBy_8 : decode cX12_tiltBy 8 = .ok (.invokevirtual 83, 3) := by decide +kernel
theorem dX12_tiltBy_11 : decode cX12_tiltBy 11 = .ok (.idiv, 1) := by decide +kernel
theorem dX12_tiltBy_12 : decode cX12_tiltBy 12 = .ok (.invokestatic 93, 3) := by decide +kernel
theorem dX12_tiltBy_15 : decode cX12_tiltBy 15 = .ok (.invokestatic 96, 3) := by decide +kernel
theorem dX12_tiltBy_18 : decode cX12_tiltBy 18 = .ok (.ireturn, 1) := by decide +kernel
theorem dX12_height_0 : decode cX12_height 0 = .ok (.iload_n 2, 1) := by decide +kernel
theorem dX12_height_1 : decode cX12_height 1 = .ok (.ineg, 1) := by decide +kernel
theorem dX12_height_2 : decode cX12_height 2 = .ok (.aload_n 0, 1) := by decide +kernel
theorem dX12_height_3 : decode cX12_height 3 = .ok (.iload_n 1, 1) := by decide +kernel
theorem dX12_height_4 : decode cX12_height 4 = .ok (.aload_n 0, 1) := by decide +kernel
theorem dX12_height_5 : decode cX12_height 5 = .ok (.iload_n 1, 1) := by decide +kernel
theorem dX12_height_6 : decode cX12_height 6 = .ok (.invokevirtual 99, 3) := by decide +kernel
theorem dX12_height_9 : decode cX12_height 9 = .ok (.invokevirtual 103, 3) := by decide +kernel
theorem dX12_height_12 : decode cX12_height 12 = .ok (.imul, 1) := by decide +kernel
theorem dX12_height_13 : decode cX12_height 13 = .ok (.ireturn, 1) := by decide +kernel
theorem dX12_ownHeight_0 : decode cX12_ownHeight 0 = .ok (.aload_n 0, 1) := by decide +kernel
theorem dX12_ownHeight_1 : decode cX12_ownHeight 1 = .ok (.aload_n 0, 1) := by decide +kernel
theorem dX12_ownHeight_2 : decode cX12_ownHeight 2 = .ok (.iload_n 1, 1) := by decide +kernel
theorem dX12_ownHeight_3 : decode cX12_ownHeight 3 = .ok (.iconst 5, 1) := by decide +kernel
theorem dX12_ownHeight_4 : decode cX12_ownHeight 4 = .ok (.invokevirtual 76, 3) := by decide +kernel
theorem dX12_ownHeight_7 : decode cX12_ownHeight 7 = .ok (.aload_n 0, 1) := by decide +kernel
theorem dX12_ownHeight_8 : decode cX12_ownHeight 8 = .ok (.iload_n 1, 1) := by decide +kernel
theorem dX12_ownHeight_9 : decode cX12_ownHeight 9 = .ok (.bipush 6, 2) := by decide +kernel
theorem dX12_ownHeight_11 : decode cX12_ownHeight 11 = .ok (.invokevirtual 76, 3) := by decide +kernel
theorem dX12_ownHeight_14 : decode cX12_ownHeight 14 = .ok (.invokevirtual 106, 3) := by decide +kernel
theorem dX12_ownHeight_17 : decode cX12_ownHeight 17 = .ok (.ireturn, 1) := by decide +kernel
theorem dX12_price_0 : decode cX12_price 0 = .ok (.aload_n 0, 1) := by decide +kernel
theorem dX12_price_1 : decode cX12_price 1 = .ok (.getfield 7, 3) := by decide +kernel
theorem dX12_price_4 : decode cX12_price 4 = .ok (.iconst 1, 1) := by decide +kernel
theorem dX12_price_5 : decode cX12_price 5 = .ok (.iaload, 1) := by decide +kernel
theorem dX12_price_6 : decode cX12_price 6 = .ok (.iload_n 2, 1) := by decide +kernel
theorem dX12_price_7 : decode cX12_price 7 = .ok (.invokestatic 109, 3) := by decide +kernel
theorem dX12_price_10 : decode cX12_price 10 = .ok (.iadd, 1) := by decide +kernel
theorem dX12_price_11 : decode cX12_price 11 = .ok (.iconst 0, 1) := by decide +kernel
theorem dX12_price_12 : decode cX12_price 12 = .ok (.aload_n 0, 1) := by decide +kernel
theorem dX12_price_13 : decode cX12_price 13 = .ok (.iload_n 1, 1) := by decide +kernel
theorem dX12_price_14 : decode cX12_price 14 = .ok (.iload_n 2, 1) := by decide +kernel
theorem dX12_price_15 : decode cX12_price 15 = .ok (.invokevirtual 106, 3) := by decide +kernel
theorem dX12_price_18 : decode cX12_price 18 = .ok (.invokestatic 96, 3) := by decide +kernel
theorem dX12_price_21 : decode cX12_price 21 = .ok (.iadd, 1) := by decide +kernel
theorem dX12_price_22 : decode cX12_price 22 = .ok (.ireturn, 1) := by decide +kernel
theorem dX12_unitPrice_0 : decode cX12_unitPrice 0 = .ok (.iconst 1, 1) := by decide +kernel
theorem dX12_unitPrice_1 : decode cX12_unitPrice 1 = .ok (.aload_n 0, 1) := by decide +kernel
theorem dX12_unitPrice_2 : decode cX12_unitPrice 2 = .ok (.getfield 7, 3) := by decide +kernel
theorem dX12_unitPrice_5 : decode cX12_unitPrice 5 = .ok (.iconst 2, 1) := by decide +kernel
theorem dX12_unitPrice_6 : decode cX12_unitPrice 6 = .ok (.iaload, 1) := by decide +kernel
theorem dX12_unitPrice_7 : decode cX12_unitPrice 7 = .ok (.aload_n 0, 1) := by decide +kernel
theorem dX12_unitPrice_8 : decode cX12_unitPrice 8 = .ok (.iload_n 2, 1) := by decide +kernel
theorem dX12_unitPrice_9 : decode cX12_unitPrice 9 = .ok (.invokevirtual 112, 3) := by decide +kernel
theorem dX12_unitPrice_12 : decode cX12_unitPrice 12 = .ok (.iadd, 1) := by decide +kernel
theorem dX12_unitPrice_13 : decode cX12_unitPrice 13 = .ok (.aload_n 0, 1) := by decide +kernel
theorem dX12_unitPrice_14 : decode cX12_unitPrice 14 = .ok (.iload_n 1, 1) := by decide +kernel
theorem dX12_unitPrice_15 : decode cX12_unitPrice 15 = .ok (.invokevirtual 112, 3) := by decide +kernel
theorem dX12_unitPrice_18 : decode cX12_unitPrice 18 = .ok (.isub, 1) := by decide +kernel
theorem dX12_unitPrice_19 : decode cX12_unitPrice 19 = .ok (.invokestatic 96, 3) := by decide +kernel
theorem dX12_unitPrice_22 : decode cX12_unitPrice 22 = .ok (.ireturn, 1) := by decide +kernel
theorem dX12_isTooMuch_0 : decode cX12_isTooMuch 0 = .ok (.iload_n 2, 1) := by decide +kernel
theorem dX12_isTooMuch_1 : decode cX12_isTooMuch 1 = .ok (.invokestatic 109, 3) := by decide +kernel
theorem dX12_isTooMuch_4 : decode cX12_isTooMuch 4 = .ok (.aload_n 0, 1) := by decide +kernel
theorem dX12_isTooMuch_5 : decode cX12_isTooMuch 5 = .ok (.iload_n 1, 1) := by decide +kernel
theorem dX12_isTooMuch_6 : decode cX12_isTooMuch 6 = .ok (.iconst 2, 1) := by decide +kernel
theorem dX12_isTooMuch_7 : decode cX12_isTooMuch 7 = .ok (.invokevirtual 83, 3) := by decide +kernel
theorem dX12_isTooMuch_10 : decode cX12_isTooMuch 10 = .ok (.if_icmp .le 7, 3) := by decide +kernel
theorem dX12_isTooMuch_13 : decode cX12_isTooMuch 13 = .ok (.iconst 1, 1) := by decide +kernel
theorem dX12_isTooMuch_14 : decode cX12_isTooMuch 14 = .ok (.goto 4, 3) := by decide +kernel
theorem dX12_isTooMuch_17 : decode cX12_isTooMuch 17 = .ok (.iconst 0, 1) := by decide +kernel
theorem dX12_isTooMuch_18 : decode cX12_isTooMuch 18 = .ok (.ireturn, 1) := by decide +kernel
theorem dX12_torqueWith_0 : decode cX12_torqueWith 0 = .ok (.aload_n 0, 1) := by decide +kernel
theorem dX12_torqueWith_1 : decode cX12_torqueWith 1 = .ok (.iload_n 2, 1) := by decide +kernel
theorem dX12_torqueWith_2 : decode cX12_torqueWith 2 = .ok (.invokevirtual 99, 3) := by decide +kernel
theorem dX12_torqueWith_5 : decode cX12_torqueWith 5 = .ok (.iload_n 3, 1) := by decide +kernel
theorem dX12_torqueWith_6 : decode cX12_torqueWith 6 = .ok (.aload_n 0, 1) := by decide +kernel
theorem dX12_torqueWith_7 : decode cX12_torqueWith 7 = .ok (.iload_n 1, 1) := by decide +kernel
theorem dX12_torqueWith_8 : decode cX12_torqueWith 8 = .ok (.iconst 1, 1) := by decide +kernel
theorem dX12_torqueWith_9 : decode cX12_torqueWith 9 = .ok (.invokevirtual 76, 3) := by decide +kernel
theorem dX12_torqueWith_12 : decode cX12_torqueWith 12 = .ok (.imul, 1) := by decide +kernel
theorem dX12_torqueWith_13 : decode cX12_torqueWith 13 = .ok (.iadd, 1) := by decide +kernel
theorem dX12_torqueWith_14 : decode cX12_torqueWith 14 = .ok (.istore 4, 2) := by decide +kernel
theorem dX12_torqueWith_16 : decode cX12_torqueWith 16 = .ok (.aload_n 0, 1) := by decide +kernel
theorem dX12_torqueWith_17 : decode cX12_torqueWith 17 = .ok (.iload_n 1, 1) := by decide +kernel
theorem dX12_torqueWith_18 : decode cX12_torqueWith 18 = .ok (.iconst 5, 1) := by decide +kernel
theorem dX12_torqueWith_19 : decode cX12_torqueWith 19 = .ok (.invokevirtual 76, 3) := by decide +kernel
theorem dX12_torqueWith_22 : decode cX12_torqueWith 22 = .ok (.iload_n 2, 1) := by decide +kernel
theorem dX12_torqueWith_23 : decode cX12_torqueWith 23 = .ok (.if_icmp .ne 23, 3) := by decide +kernel
theorem dX12_torqueWith_26 : decode cX12_torqueWith 26 = .ok (.iload 4, 2) := by decide +kernel
theorem dX12_torqueWith_28 : decode cX12_torqueWith 28 = .ok (.aload_n 0, 1) := by decide +kernel
theorem dX12_torqueWith_29 : decode cX12_torqueWith 29 = .ok (.iload_n 1, 1) := by decide +kernel
theorem dX12_torqueWith_30 : decode cX12_torqueWith 30 = .ok (.bipush 6, 2) := by decide +kernel
theorem dX12_torqueWith_32 : decode cX12_torqueWith 32 = .ok (.invokevirtual 76, 3) := by decide +kernel
theorem dX12_torqueWith_35 : decode cX12_torqueWith 35 = .ok (.aload_n 0, 1) := by decide +kernel
theorem dX12_torqueWith_36 : decode cX12_torqueWith 36 = .ok (.iload_n 1, 1) := by decide +kernel
theorem dX12_torqueWith_37 : decode cX12_torqueWith 37 = .ok (.iconst 1, 1) := by decide +kernel
theorem dX12_torqueWith_38 : decode cX12_torqueWith 38 = .ok (.invokevirtual 76, 3) := by decide +kernel
theorem dX12_torqueWith_41 : decode cX12_torqueWith 41 = .ok (.imul, 1) := by decide +kernel
theorem dX12_torqueWith_42 : decode cX12_torqueWith 42 = .ok (.isub, 1) := by decide +kernel
theorem dX12_torqueWith_43 : decode cX12_torqueWith 43 = .ok (.goto 5, 3) := by decide +kernel
theorem dX12_torqueWith_46 : decode cX12_torqueWith 46 = .ok (.iload 4, 2) := by decide +kernel
theorem dX12_torqueWith_48 : decode cX12_torqueWith 48 = .ok (.ireturn, 1) := by decide +kernel
theorem dX12_moves_0 : decode cX12_moves 0 = .ok (.iload_n 3, 1) := by decide +kernel
theorem dX12_moves_1 : decode cX12_moves 1 = .ok (.aload_n 0, 1) := by decide +kernel
theorem dX12_moves_2 : decode cX12_moves 2 = .ok (.getfield 7, 3) := by decide +kernel
theorem dX12_moves_5 : decode cX12_moves 5 = .ok (.iload_n 1, 1) := by decide +kernel
theorem dX12_moves_6 : decode cX12_moves 6 = .ok (.iaload, 1) := by decide +kernel
theorem dX12_moves_7 : decode cX12_moves 7 = .ok (.invokestatic 93, 3) := by decide +kernel
theorem dX12_moves_10 : decode cX12_moves 10 = .ok (.istore 4, 2) := by decide +kernel
theorem dX12_moves_12 : decode cX12_moves 12 = .ok (.aload_n 0, 1) := by decide +kernel
theorem dX12_moves_13 : decode cX12_moves 13 = .ok (.getfield 7, 3) := by decide +kernel
theorem dX12_moves_16 : decode cX12_moves 16 = .ok (.iload_n 1, 1) := by decide +kernel
theorem dX12_moves_17 : decode cX12_moves 17 = .ok (.dup2, 1) := by decide +kernel
theorem dX12_moves_18 : decode cX12_moves 18 = .ok (.iaload, 1) := by decide +kernel
theorem dX12_moves_19 : decode cX12_moves 19 = .ok (.iload 4, 2) := by decide +kernel
theorem dX12_moves_21 : decode cX12_moves 21 = .ok (.isub, 1) := by decide +kernel
theorem dX12_moves_22 : decode cX12_moves 22 = .ok (.iastore, 1) := by decide +kernel
theorem dX12_moves_23 : decode cX12_moves 23 = .ok (.aload_n 0, 1) := by decide +kernel
theorem dX12_moves_24 : decode cX12_moves 24 = .ok (.getfield 7, 3) := by decide +kernel
theorem dX12_moves_27 : decode cX12_moves 27 = .ok (.iload_n 2, 1) := by decide +kernel
theorem dX12_moves_28 : decode cX12_moves 28 = .ok (.dup2, 1) := by decide +kernel
theorem dX12_moves_29 : decode cX12_moves 29 = .ok (.iaload, 1) := by decide +kernel
theorem dX12_moves_30 : decode cX12_moves 30 = .ok (.iload 4, 2) := by decide +kernel
theorem dX12_moves_32 : decode cX12_moves 32 = .ok (.iadd, 1) := by decide +kernel
theorem dX12_moves_33 : decode cX12_moves 33 = .ok (.iastore, 1) := by decide +kernel
theorem dX12_moves_34 : decode cX12_moves 34 = .ok (.return_, 1) := by decide +kernel
theorem dX12_earns_0 : decode cX12_earns 0 = .ok (.iconst 0, 1) := by decide +kernel
theorem dX12_earns_1 : decode cX12_earns 1 = .ok (.istore_n 1, 1) := by decide +kernel
theorem dX12_earns_2 : decode cX12_earns 2 = .ok (.iload_n 1, 1) := by decide +kernel
theorem dX12_earns_3 : decode cX12_earns 3 = .ok (.aload_n 0, 1) := by decide +kernel
theorem dX12_earns_4 : decode cX12_earns 4 = .ok (.getfield 7, 3) := by decide +kernel
theorem dX12_earns_7 : decode cX12_earns 7 = .ok (.bipush 8, 2) := by decide +kernel
theorem dX12_earns_9 : decode cX12_earns 9 = .ok (.iaload, 1) := by decide +kernel
theorem dX12_earns_10 : decode cX12_earns 10 = .ok (.if_icmp .ge 63, 3) := by decide +kernel
theorem dX12_earns_13 : decode cX12_earns 13 = .ok (.aload_n 0, 1) := by decide +kernel
theorem dX12_earns_14 : decode cX12_earns 14 = .ok (.iload_n 1, 1) := by decide +kernel
theorem dX12_earns_15 : decode cX12_earns 15 = .ok (.invokevirtual 79, 3) := by decide +kernel
theorem dX12_earns_18 : decode cX12_earns 18 = .ok (.ifCond .ne 6, 3) := by decide +kernel
theorem dX12_earns_21 : decode cX12_earns 21 = .ok (.goto 46, 3) := by decide +kernel
theorem dX12_earns_24 : decode cX12_earns 24 = .ok (.aload_n 0, 1) := by decide +kernel
theorem dX12_earns_25 : decode cX12_earns 25 = .ok (.getfield 7, 3) := by decide +kernel
theorem dX12_earns_28 : decode cX12_earns 28 = .ok (.iconst 0, 1) := by decide +kernel
theorem dX12_earns_29 : decode cX12_earns 29 = .ok (.iaload, 1) := by decide +kernel
theorem dX12_earns_30 : decode cX12_earns 30 = .ok (.aload_n 0, 1) := by decide +kernel
theorem dX12_earns_31 : decode cX12_earns 31 = .ok (.iload_n 1, 1) := by decide +kernel
theorem dX12_earns_32 : decode cX12_earns 32 = .ok (.invokevirtual 112, 3) := by decide +kernel
theorem dX12_earns_35 : decode cX12_earns 35 = .ok (.iadd, 1) := by decide +kernel
theorem dX12_earns_36 : decode cX12_earns 36 = .ok (.istore_n 2, 1) := by decide +kernel
theorem dX12_earns_37 : decode cX12_earns 37 = .ok (.iload_n 2, 1) := by decide +kernel
theorem dX12_earns_38 : decode cX12_earns 38 = .ok (.ifCond .le 17, 3) := by decide +kernel
theorem dX12_earns_41 : decode cX12_earns 41 = .ok (.aload_n 0, 1) := by decide +kernel
theorem dX12_earns_42 : decode cX12_earns 42 = .ok (.iconst 5, 1) := by decide +kernel
theorem dX12_earns_43 : decode cX12_earns 43 = .ok (.iload_n 1, 1) := by decide +kernel
theorem dX12_earns_44 : decode cX12_earns 44 = .ok (.iconst 2, 1) := by decide +kernel
theorem dX12_earns_45 : decode cX12_earns 45 = .ok (.invokestatic 70, 3) := by decide +kernel
theorem dX12_earns_48 : decode cX12_earns 48 = .ok (.iload_n 2, 1) := by decide +kernel
theorem dX12_earns_49 : decode cX12_earns 49 = .ok (.invokevirtual 115, 3) := by decide +kernel
theorem dX12_earns_52 : decode cX12_earns 52 = .ok (.goto 15, 3) := by decide +kernel
theorem dX12_earns_55 : decode cX12_earns 55 = .ok (.aload_n 0, 1) := by decide +kernel
theorem dX12_earns_56 : decode cX12_earns 56 = .ok (.iload_n 1, 1) := by decide +kernel
theorem dX12_earns_57 : decode cX12_earns 57 = .ok (.iconst 2, 1) := by decide +kernel
theorem dX12_earns_58 : decode cX12_earns 58 = .ok (.invokestatic 70, 3) := by decide +kernel
theorem dX12_earns_61 : decode cX12_earns 61 = .ok (.iconst 5, 1) := by decide +kernel
theorem dX12_earns_62 : decode cX12_earns 62 = .ok (.iload_n 2, 1) := by decide +kernel
theorem dX12_earns_63 : decode cX12_earns 63 = .ok (.ineg, 1) := by decide +kernel
theorem dX12_earns_64 : decode cX12_earns 64 = .ok (.invokevirtual 115, 3) := by decide +kernel
theorem dX12_earns_67 : decode cX12_earns 67 = .ok (.iinc 1 1, 3) := by decide +kernel
theorem dX12_earns_70 : decode cX12_earns 70 = .ok (.goto (-68), 3) := by decide +kernel
theorem dX12_earns_73 : decode cX12_earns 73 = .ok (.return_, 1) := by decide +kernel
theorem dX12_records_0 : decode cX12_records 0 = .ok (.bipush 32, 2) := by decide +kernel
theorem dX12_records_2 : decode cX12_records 2 = .ok (.istore_n 3, 1) := by decide +kernel
theorem dX12_records_3 : decode cX12_records 3 = .ok (.iload_n 3, 1) := by decide +kernel
theorem dX12_records_4 : decode cX12_records 4 = .ok (.ifCond .lt 31, 3) := by decide +kernel
theorem dX12_records_7 : decode cX12_records 7 = .ok (.aload_n 0, 1) := by decide +kernel
theorem dX12_records_8 : decode cX12_records 8 = .ok (.getfield 7, 3) := by decide +kernel
theorem dX12_records_11 : decode cX12_records 11 = .ok (.sipush 257, 3) := by decide +kernel
theorem dX12_records_14 : decode cX12_records 14 = .ok (.iload_n 3, 1) := by decide +kernel
theorem dX12_records_15 : decode cX12_records 15 = .ok (.iadd, 1) := by decide +kernel
theorem dX12_records_16 : decode cX12_records 16 = .ok (.iconst 3, 1) := by decide +kernel
theorem dX12_records_17 : decode cX12_records 17 = .ok (.iadd, 1) := by decide +kernel
theorem dX12_records_18 : decode cX12_records 18 = .ok (.aload_n 0, 1) := by decide +kernel
theorem dX12_records_19 : decode cX12_records 19 = .ok (.getfield 7, 3) := by decide +kernel
theorem dX12_records_22 : decode cX12_records 22 = .ok (.sipush 257, 3) := by decide +kernel
theorem dX12_records_25 : decode cX12_records 25 = .ok (.iload_n 3, 1) := by decide +kernel
theorem dX12_records_26 : decode cX12_records 26 = .ok (.iadd, 1) := by decide +kernel
theorem dX12_records_27 : decode cX12_records 27 = .ok (.iaload, 1) := by decide +kernel
theorem dX12_records_28 : decode cX12_records 28 = .ok (.iastore, 1) := by decide +kernel
theorem dX12_records_29 : decode cX12_records 29 = .ok (.iinc 3 (-1), 3) := by decide +kernel
theorem dX12_records_32 : decode cX12_records 32 = .ok (.goto (-29), 3) := by decide +kernel
theorem dX12_records_35 : decode cX12_records 35 = .ok (.aload_n 0, 1) := by decide +kernel
theorem dX12_records_36 : decode cX12_records 36 = .ok (.getfield 7, 3) := by decide +kernel
theorem dX12_records_39 : decode cX12_records 39 = .ok (.sipush 257, 3) := by decide +kernel
theorem dX12_records_42 : decode cX12_records 42 = .ok (.iload_n 1, 1) := by decide +kernel
theorem dX12_records_43 : decode cX12_records 43 = .ok (.iastore, 1) := by decide +kernel
theorem dX12_records_44 : decode cX12_records 44 = .ok (.aload_n 0, 1) := by decide +kernel
theorem dX12_records_45 : decode cX12_records 45 = .ok (.getfield 7, 3) := by decide +kernel
theorem dX12_records_48 : decode cX12_records 48 = .ok (.sipush 258, 3) := by decide +kernel
theorem dX12_records_51 : decode cX12_records 51 = .ok (.iload_n 2, 1) := by decide +kernel
theorem dX12_records_52 : decode cX12_records 52 = .ok (.iastore, 1) := by decide +kernel
theorem dX12_records_53 : decode cX12_records 53 = .ok (.aload_n 0, 1) := by decide +kernel
theorem dX12_records_54 : decode cX12_records 54 = .ok (.getfield 7, 3) := by decide +kernel
theorem dX12_records_57 : decode cX12_records 57 = .ok (.sipush 259, 3) := by decide +kernel
theorem dX12_records_60 : decode cX12_records 60 = .ok (.aload_n 0, 1) := by decide +kernel
theorem dX12_records_61 : decode cX12_records 61 = .ok (.getfield 7, 3) := by decide +kernel
theorem dX12_records_64 : decode cX12_records 64 = .ok (.bipush 6, 2) := by decide +kernel
theorem dX12_records_66 : decode cX12_records 66 = .ok (.iaload, 1) := by decide +kernel
theorem dX12_records_67 : decode cX12_records 67 = .ok (.iastore, 1) := by decide +kernel
theorem dX12_records_68 : decode cX12_records 68 = .ok (.aload_n 0, 1) := by decide +kernel
theorem dX12_records_69 : decode cX12_records 69 = .ok (.getfield 7, 3) := by decide +kernel
theorem dX12_records_72 : decode cX12_records 72 = .ok (.bipush 13, 2) := by decide +kernel
theorem dX12_records_74 : decode cX12_records 74 = .ok (.bipush 12, 2) := by decide +kernel
theorem dX12_records_76 : decode cX12_records 76 = .ok (.aload_n 0, 1) := by decide +kernel
theorem dX12_records_77 : decode cX12_records 77 = .ok (.getfield 7, 3) := by decide +kernel
theorem dX12_records_80 : decode cX12_records 80 = .ok (.bipush 13, 2) := by decide +kernel
theorem dX12_records_82 : decode cX12_records 82 = .ok (.iaload, 1) := by decide +kernel
theorem dX12_records_83 : decode cX12_records 83 = .ok (.iconst 1, 1) := by decide +kernel
theorem dX12_records_84 : decode cX12_records 84 = .ok (.iadd, 1) := by decide +kernel
theorem dX12_records_85 : decode cX12_records 85 = .ok (.invokestatic 93, 3) := by decide +kernel
theorem dX12_records_88 : decode cX12_records 88 = .ok (.iastore, 1) := by decide +kernel
theorem dX12_records_89 : decode cX12_records 89 = .ok (.return_, 1) := by decide +kernel
theorem dX12_ages_0 : decode cX12_ages 0 = .ok (.iconst 0, 1) := by decide +kernel
theorem dX12_ages_1 : decode cX12_ages 1 = .ok (.istore_n 1, 1) := by decide +kernel
theorem dX12_ages_2 : decode cX12_ages 2 = .ok (.iload_n 1, 1) := by decide +kernel
theorem dX12_ages_3 : decode cX12_ages 3 = .ok (.aload_n 0, 1) := by decide +kernel
theorem dX12_ages_4 : decode cX12_ages 4 = .ok (.getfield 7, 3) := by decide +kernel
theorem dX12_ages_7 : decode cX12_ages 7 = .ok (.bipush 8, 2) := by decide +kernel
theorem dX12_ages_9 : decode cX12_ages 9 = .ok (.iaload, 1) := by decide +kernel
theorem dX12_ages_10 : decode cX12_ages 10 = .ok (.if_icmp .ge 88, 3) := by decide +kernel
theorem dX12_ages_13 : decode cX12_ages 13 = .ok (.aload_n 0, 1) := by decide +kernel
theorem dX12_ages_14 : decode cX12_ages 14 = .ok (.iload_n 1, 1) := by decide +kernel
theorem dX12_ages_15 : decode cX12_ages 15 = .ok (.iconst 4, 1) := by decide +kernel
theorem dX12_ages_16 : decode cX12_ages 16 = .ok (.invokevirtual 76, 3) := by decide +kernel
theorem dX12_ages_19 : decode cX12_ages 19 = .ok (.ifCond .ne 6, 3) := by decide +kernel
theorem dX12_ages_22 : decode cX12_ages 22 = .ok (.goto 70, 3) := by decide +kernel
theorem dX12_ages_25 : decode cX12_ages 25 = .ok (.aload_n 0, 1) := by decide +kernel
theorem dX12_ages_26 : decode cX12_ages 26 = .ok (.getfield 7, 3) := by decide +kernel
theorem dX12_ages_29 : decode cX12_ages 29 = .ok (.iload_n 1, 1) := by decide +kernel
theorem dX12_ages_30 : decode cX12_ages 30 = .ok (.iconst 3, 1) := by decide +kernel
theorem dX12_ages_31 : decode cX12_ages 31 = .ok (.invokestatic 70, 3) := by decide +kernel
theorem dX12_ages_34 : decode cX12_ages 34 = .ok (.dup2, 1) := by decide +kernel
theorem dX12_ages_35 : decode cX12_ages 35 = .ok (.iaload, 1) := by decide +kernel
theorem dX12_ages_36 : decode cX12_ages 36 = .ok (.iconst 1, 1) := by decide +kernel
theorem dX12_ages_37 : decode cX12_ages 37 = .ok (.iadd, 1) := by decide +kernel
theorem dX12_ages_38 : decode cX12_ages 38 = .ok (.iastore, 1) := by decide +kernel
theorem dX12_ages_39 : decode cX12_ages 39 = .ok (.aload_n 0, 1) := by decide +kernel
theorem dX12_ages_40 : decode cX12_ages 40 = .ok (.iload_n 1, 1) := by decide +kernel
theorem dX12_ages_41 : decode cX12_ages 41 = .ok (.iconst 3, 1) := by decide +kernel
theorem dX12_ages_42 : decode cX12_ages 42 = .ok (.invokevirtual 76, 3) := by decide +kernel
theorem dX12_ages_45 : decode cX12_ages 45 = .ok (.aload_n 0, 1) := by decide +kernel
theorem dX12_ages_46 : decode cX12_ages 46 = .ok (.getfield 7, 3) := by decide +kernel
theorem dX12_ages_49 : decode cX12_ages 49 = .ok (.iconst 3, 1) := by decide +kernel
theorem dX12_ages_50 : decode cX12_ages 50 = .ok (.iaload, 1) := by decide +kernel
theorem dX12_ages_51 : decode cX12_ages 51 = .ok (.if_icmp .le 41, 3) := by decide +kernel
theorem dX12_ages_54 : decode cX12_ages 54 = .ok (.aload_n 0, 1) := by decide +kernel
theorem dX12_ages_55 : decode cX12_ages 55 = .ok (.iload_n 1, 1) := by decide +kernel
theorem dX12_ages_56 : decode cX12_ages 56 = .ok (.invokevirtual 118, 3) := by decide +kernel
theorem dX12_ages_59 : decode cX12_ages 59 = .ok (.aload_n 0, 1) := by decide +kernel
theorem dX12_ages_60 : decode cX12_ages 60 = .ok (.iload_n 1, 1) := by decide +kernel
theorem dX12_ages_61 : decode cX12_ages 61 = .ok (.iconst 2, 1) := by decide +kernel
theorem dX12_ages_62 : decode cX12_ages 62 = .ok (.invokestatic 70, 3) := by decide +kernel
theorem dX12_ages_65 : decode cX12_ages 65 = .ok (.iconst 5, 1) := by decide +kernel
theorem dX12_ages_66 : decode cX12_ages 66 = .ok (.aload_n 0, 1) := by decide +kernel
theorem dX12_ages_67 : decode cX12_ages 67 = .ok (.iload_n 1, 1) := by decide +kernel
theorem dX12_ages_68 : decode cX12_ages 68 = .ok (.iconst 2, 1) := by decide +kernel
theorem dX12_ages_69 : decode cX12_ages 69 = .ok (.invokevirtual 76, 3) := by decide +kernel
theorem dX12_ages_72 : decode cX12_ages 72 = .ok (.invokevirtual 115, 3) := by decide +kernel
theorem dX12_ages_75 : decode cX12_ages 75 = .ok (.aload_n 0, 1) := by decide +kernel
theorem dX12_ages_76 : decode cX12_ages 76 = .ok (.getfield 7, 3) := by decide +kernel
theorem dX12_ages_79 : decode cX12_ages 79 = .ok (.iload_n 1, 1) := by decide +kernel
theorem dX12_ages_80 : decode cX12_ages 80 = .ok (.iconst 4, 1) := by decide +kernel
theorem dX12_ages_81 : decode cX12_ages 81 = .ok (.invokestatic 70, 3) := by decide +kernel
theorem dX12_ages_84 : decode cX12_ages 84 = .ok (.iconst 0, 1) := by decide +kernel
theorem dX12_ages_85 : decode cX12_ages 85 = .ok (.iastore, 1) := by decide +kernel
theorem dX12_ages_86 : decode cX12_ages 86 = .ok (.aload_n 0, 1) := by decide +kernel
theorem dX12_ages_87 : decode cX12_ages 87 = .ok (.iconst 2, 1) := by decide +kernel
theorem dX12_ages_88 : decode cX12_ages 88 = .ok (.iload_n 1, 1) := by decide +kernel
theorem dX12_ages_89 : decode cX12_ages 89 = .ok (.invokevirtual 122, 3) := by decide +kernel
theorem dX12_ages_92 : decode cX12_ages 92 = .ok (.iinc 1 1, 3) := by decide +kernel
theorem dX12_ages_95 : decode cX12_ages 95 = .ok (.goto (-93), 3) := by decide +kernel
theorem dX12_ages_98 : decode cX12_ages 98 = .ok (.return_, 1) := by decide +kernel
theorem dX12_tips_0 : decode cX12_tips 0 = .ok (.aload_n 0, 1) := by decide +kernel
theorem dX12_tips_1 : decode cX12_tips 1 = .ok (.iload_n 1, 1) := by decide +kernel
theorem dX12_tips_2 : decode cX12_tips 2 = .ok (.invokevirtual 99, 3) := by decide +kernel
theorem dX12_tips_5 : decode cX12_tips 5 = .ok (.istore_n 2, 1) := by decide +kernel
theorem dX12_tips_6 : decode cX12_tips 6 = .ok (.aload_n 0, 1) := by decide +kernel
theorem dX12_tips_7 : decode cX12_tips 7 = .ok (.iload_n 1, 1) := by decide +kernel
theorem dX12_tips_8 : decode cX12_tips 8 = .ok (.iload_n 2, 1) := by decide +kernel
theorem dX12_tips_9 : decode cX12_tips 9 = .ok (.invokevirtual 126, 3) := by decide +kernel
theorem dX12_tips_12 : decode cX12_tips 12 = .ok (.ifCond .eq 115, 3) := by decide +kernel
theorem dX12_tips_15 : decode cX12_tips 15 = .ok (.iload_n 2, 1) := by decide +kernel
theorem dX12_tips_16 : decode cX12_tips 16 = .ok (.ifCond .le 12, 3) := by decide +kernel
theorem dX12_tips_19 : decode cX12_tips 19 = .ok (.aload_n 0, 1) := by decide +kernel
theorem dX12_tips_20 : decode cX12_tips 20 = .ok (.iload_n 1, 1) := by decide +kernel
theorem dX12_tips_21 : decode cX12_tips 21 = .ok (.iconst 0, 1) := by decide +kernel
theorem dX12_tips_22 : decode cX12_tips 22 = .ok (.invokevirtual 83, 3) := by decide +kernel
theorem dX12_tips_25 : decode cX12_tips 25 = .ok (.goto 10, 3) := by decide +kernel
theorem dX12_tips_28 : decode cX12_tips 28 = .ok (.aload_n 0, 1) := by decide +kernel
theorem dX12_tips_29 : decode cX12_tips 29 = .ok (.iload_n 1, 1) := by decide +kernel
theorem dX12_tips_30 : decode cX12_tips 30 = .ok (.iconst 0, 1) := by decide +kernel
theorem dX12_tips_31 : decode cX12_tips 31 = .ok (.invokevirtual 83, 3) := by decide +kernel
theorem dX12_tips_34 : decode cX12_tips 34 = .ok (.ineg, 1) := by decide +kernel
theorem dX12_tips_35 : decode cX12_tips 35 = .ok (.istore_n 3, 1) := by decide +kernel
theorem dX12_tips_36 : decode cX12_tips 36 = .ok (.aload_n 0, 1) := by decide +kernel
theorem dX12_tips_37 : decode cX12_tips 37 = .ok (.iload_n 1, 1) := by decide +kernel
theorem dX12_tips_38 : decode cX12_tips 38 = .ok (.iload_n 3, 1) := by decide +kernel
theorem dX12_tips_39 : decode cX12_tips 39 = .ok (.invokevirtual 90, 3) := by decide +kernel
theorem dX12_tips_42 : decode cX12_tips 42 = .ok (.iconst (-1), 1) := by decide +kernel
theorem dX12_tips_43 : decode cX12_tips 43 = .ok (.if_icmp .ne 18, 3) := by decide +kernel
theorem dX12_tips_46 : decode cX12_tips 46 = .ok (.iload_n 3, 1) := by decide +kernel
theorem dX12_tips_47 : decode cX12_tips 47 = .ok (.iload_n 2, 1) := by decide +kernel
theorem dX12_tips_48 : decode cX12_tips 48 = .ok (.ifCond .le 7, 3) := by decide +kernel
theorem dX12_tips_51 : decode cX12_tips 51 = .ok (.iconst 1, 1) := by decide +kernel
theorem dX12_tips_52 : decode cX12_tips 52 = .ok (.goto 4, 3) := by decide +kernel
theorem dX12_tips_55 : decode cX12_tips 55 = .ok (.iconst (-1), 1) := by decide +kernel
theorem dX12_tips_56 : decode cX12_tips 56 = .ok (.isub, 1) := by decide +kernel
theorem dX12_tips_57 : decode cX12_tips 57 = .ok (.istore_n 3, 1) := by decide +kernel
theorem dX12_tips_58 : decode cX12_tips 58 = .ok (.goto (-22), 3) := by decide +kernel
theorem dX12_tips_61 : decode cX12_tips 61 = .ok (.aload_n 0, 1) := by decide +kernel
theorem dX12_tips_62 : decode cX12_tips 62 = .ok (.iload_n 1, 1) := by decide +kernel
theorem dX12_tips_63 : decode cX12_tips 63 = .ok (.iload_n 3, 1) := by decide +kernel
theorem dX12_tips_64 : decode cX12_tips 64 = .ok (.invokevirtual 90, 3) := by decide +kernel
theorem dX12_tips_67 : decode cX12_tips 67 = .ok (.istore 4, 2) := by decide +kernel
theorem dX12_tips_69 : decode cX12_tips 69 = .ok (.aload_n 0, 1) := by decide +kernel
theorem dX12_tips_70 : decode cX12_tips 70 = .ok (.iload 4, 2) := by decide +kernel
theorem dX12_tips_72 : decode cX12_tips 72 = .ok (.invokevirtual 118, 3) := by decide +kernel
theorem dX12_tips_75 : decode cX12_tips 75 = .ok (.aload_n 0, 1) := by decide +kernel
theorem dX12_tips_76 : decode cX12_tips 76 = .ok (.iload 4, 2) := by decide +kernel
theorem dX12_tips_78 : decode cX12_tips 78 = .ok (.iconst 2, 1) := by decide +kernel
theorem dX12_tips_79 : decode cX12_tips 79 = .ok (.invokestatic 70, 3) := by decide +kernel
theorem dX12_tips_82 : decode cX12_tips 82 = .ok (.iconst 5, 1) := by decide +kernel
theorem dX12_tips_83 : decode cX12_tips 83 = .ok (.aload_n 0, 1) := by decide +kernel
theorem dX12_tips_84 : decode cX12_tips 84 = .ok (.getfield 7, 3) := by decide +kernel
theorem dX12_tips_87 : decode cX12_tips 87 = .ok (.iconst 4, 1) := by decide +kernel
theorem dX12_tips_88 : decode cX12_tips 88 = .ok (.iaload, 1) := by decide +kernel
theorem dX12_tips_89 : decode cX12_tips 89 = .ok (.invokevirtual 115, 3) := by decide +kernel
theorem dX12_tips_92 : decode cX12_tips 92 = .ok (.aload_n 0, 1) := by decide +kernel
theorem dX12_tips_93 : decode cX12_tips 93 = .ok (.iconst 1, 1) := by decide +kernel
theorem dX12_tips_94 : decode cX12_tips 94 = .ok (.iload 4, 2) := by decide +kernel
theorem dX12_tips_96 : decode cX12_tips 96 = .ok (.invokevirtual 122, 3) := by decide +kernel
theorem dX12_tips_99 : decode cX12_tips 99 = .ok (.aload_n 0, 1) := by decide +kernel
theorem dX12_tips_100 : decode cX12_tips 100 = .ok (.getfield 7, 3) := by decide +kernel
theorem dX12_tips_103 : decode cX12_tips 103 = .ok (.bipush 12, 2) := by decide +kernel
theorem dX12_tips_105 : decode cX12_tips 105 = .ok (.dup2, 1) := by decide +kernel
theorem dX12_tips_106 : decode cX12_tips 106 = .ok (.iaload, 1) := by decide +kernel
theorem dX12_tips_107 : decode cX12_tips 107 = .ok (.iconst 1, 1) := by decide +kernel
theorem dX12_tips_108 : decode cX12_tips 108 = .ok (.iadd, 1) := by decide +kernel
theorem dX12_tips_109 : decode cX12_tips 109 = .ok (.iastore, 1) := by decide +kernel
theorem dX12_tips_110 : decode cX12_tips 110 = .ok (.aload_n 0, 1) := by decide +kernel
theorem dX12_tips_111 : decode cX12_tips 111 = .ok (.getfield 26, 3) := by decide +kernel
theorem dX12_tips_114 : decode cX12_tips 114 = .ok (.iload 4, 2) := by decide +kernel
theorem dX12_tips_116 : decode cX12_tips 116 = .ok (.iconst 1, 1) := by decide +kernel
theorem dX12_tips_117 : decode cX12_tips 117 = .ok (.bastore, 1) := by decide +kernel
theorem dX12_tips_118 : decode cX12_tips 118 = .ok (.aload_n 0, 1) := by decide +kernel
theorem dX12_tips_119 : decode cX12_tips 119 = .ok (.iload_n 1, 1) := by decide +kernel
theorem dX12_tips_120 : decode cX12_tips 120 = .ok (.invokevirtual 99, 3) := by decide +kernel
theorem dX12_tips_123 : decode cX12_tips 123 = .ok (.istore_n 2, 1) := by decide +kernel
theorem dX12_tips_124 : decode cX12_tips 124 = .ok (.goto (-118), 3) := by decide +kernel
theorem dX12_tips_127 : decode cX12_tips 127 = .ok (.return_, 1) := by decide +kernel
theorem dX12_day1_0 : decode cX12_day1 0 = .ok (.aload_n 0, 1) := by decide +kernel
theorem dX12_day1_1 : decode cX12_day1 1 = .ok (.getfield 7, 3) := by decide +kernel
theorem dX12_day1_4 : decode cX12_day1 4 = .ok (.bipush 6, 2) := by decide +kernel
theorem dX12_day1_6 : decode cX12_day1 6 = .ok (.dup2, 1) := by decide +kernel
theorem dX12_day1_7 : decode cX12_day1 7 = .ok (.iaload, 1) := by decide +kernel
theorem dX12_day1_8 : decode cX12_day1 8 = .ok (.iconst 1, 1) := by decide +kernel
theorem dX12_day1_9 : decode cX12_day1 9 = .ok (.iadd, 1) := by decide +kernel
theorem dX12_day1_10 : decode cX12_day1 10 = .ok (.iastore, 1) := by decide +kernel
theorem dX12_day1_11 : decode cX12_day1 11 = .ok (.aload_n 0, 1) := by decide +kernel
theorem dX12_day1_12 : decode cX12_day1 12 = .ok (.invokevirtual 130, 3) := by decide +kernel
theorem dX12_day1_15 : decode cX12_day1 15 = .ok (.aload_n 0, 1) := by decide +kernel
theorem dX12_day1_16 : decode cX12_day1 16 = .ok (.invokevirtual 133, 3) := by decide +kernel
theorem dX12_day1_19 : decode cX12_day1 19 = .ok (.iconst 0, 1) := by decide +kernel
theorem dX12_day1_20 : decode cX12_day1 20 = .ok (.istore_n 1, 1) := by decide +kernel
theorem dX12_day1_21 : decode cX12_day1 21 = .ok (.iload_n 1, 1) := by decide +kernel
theorem dX12_day1_22 : decode cX12_day1 22 = .ok (.aload_n 0, 1) := by decide +kernel
theorem dX12_day1_23 : decode cX12_day1 23 = .ok (.getfield 7, 3) := by decide +kernel
theorem dX12_day1_26 : decode cX12_day1 26 = .ok (.bipush 7, 2) := by decide +kernel
theorem dX12_day1_28 : decode cX12_day1 28 = .ok (.iaload, 1) := by decide +kernel
theorem dX12_day1_29 : decode cX12_day1 29 = .ok (.if_icmp .ge 14, 3) := by decide +kernel
theorem dX12_day1_32 : decode cX12_day1 32 = .ok (.aload_n 0, 1) := by decide +kernel
theorem dX12_day1_33 : decode cX12_day1 33 = .ok (.iload_n 1, 1) := by decide +kernel
theorem dX12_day1_34 : decode cX12_day1 34 = .ok (.invokevirtual 136, 3) := by decide +kernel
theorem dX12_day1_37 : decode cX12_day1 37 = .ok (.iinc 1 1, 3) := by decide +kernel
theorem dX12_day1_40 : decode cX12_day1 40 = .ok (.goto (-19), 3) := by decide +kernel
theorem dX12_day1_43 : decode cX12_day1 43 = .ok (.return_, 1) := by decide +kernel
theorem dX12_days1_0 : decode cX12_days1 0 = .ok (.aload_n 0, 1) := by decide +kernel
theorem dX12_days1_1 : decode cX12_days1 1 = .ok (.getfield 7, 3) := by decide +kernel
theorem dX12_days1_4 : decode cX12_days1 4 = .ok (.bipush 12, 2) := by decide +kernel
theorem dX12_days1_6 : decode cX12_days1 6 = .ok (.iaload, 1) := by decide +kernel
theorem dX12_days1_7 : decode cX12_days1 7 = .ok (.istore_n 2, 1) := by decide +kernel
theorem dX12_days1_8 : decode cX12_days1 8 = .ok (.iconst 0, 1) := by decide +kernel
theorem dX12_days1_9 : decode cX12_days1 9 = .ok (.istore_n 3, 1) := by decide +kernel
theorem dX12_days1_10 : decode cX12_days1 10 = .ok (.iload_n 3, 1) := by decide +kernel
theorem dX12_days1_11 : decode cX12_days1 11 = .ok (.iload_n 1, 1) := by decide +kernel
theorem dX12_days1_12 : decode cX12_days1 12 = .ok (.if_icmp .ge 13, 3) := by decide +kernel
theorem dX12_days1_15 : decode cX12_days1 15 = .ok (.aload_n 0, 1) := by decide +kernel
theorem dX12_days1_16 : decode cX12_days1 16 = .ok (.invokevirtual 139, 3) := by decide +kernel
theorem dX12_days1_19 : decode cX12_days1 19 = .ok (.iinc 3 1, 3) := by decide +kernel
theorem dX12_days1_22 : decode cX12_days1 22 = .ok (.goto (-12), 3) := by decide +kernel
theorem dX12_days1_25 : decode cX12_days1 25 = .ok (.aload_n 0, 1) := by decide +kernel
theorem dX12_days1_26 : decode cX12_days1 26 = .ok (.getfield 7, 3) := by decide +kernel
theorem dX12_days1_29 : decode cX12_days1 29 = .ok (.bipush 12, 2) := by decide +kernel
theorem dX12_days1_31 : decode cX12_days1 31 = .ok (.iaload, 1) := by decide +kernel
theorem dX12_days1_32 : decode cX12_days1 32 = .ok (.iload_n 2, 1) := by decide +kernel
theorem dX12_days1_33 : decode cX12_days1 33 = .ok (.isub, 1) := by decide +kernel
theorem dX12_days1_34 : decode cX12_days1 34 = .ok (.ireturn, 1) := by decide +kernel
theorem dX12_againstSeat_0 : decode cX12_againstSeat 0 = .ok (.aload_n 0, 1) := by decide +kernel
theorem dX12_againstSeat_1 : decode cX12_againstSeat 1 = .ok (.iload_n 1, 1) := by decide +kernel
theorem dX12_againstSeat_2 : decode cX12_againstSeat 2 = .ok (.iconst 4, 1) := by decide +kernel
theorem dX12_againstSeat_3 : decode cX12_againstSeat 3 = .ok (.invokevirtual 76, 3) := by decide +kernel
theorem dX12_againstSeat_6 : decode cX12_againstSeat 6 = .ok (.ifCond .ne 5, 3) := by decide +kernel
theorem dX12_againstSeat_9 : decode cX12_againstSeat 9 = .ok (.iconst 1, 1) := by decide +kernel
theorem dX12_againstSeat_10 : decode cX12_againstSeat 10 = .ok (.ireturn, 1) := by decide +kernel
theorem dX12_againstSeat_11 : decode cX12_againstSeat 11 = .ok (.aload_n 0, 1) := by decide +kernel
theorem dX12_againstSeat_12 : decode cX12_againstSeat 12 = .ok (.iload_n 2, 1) := by decide +kernel
theorem dX12_againstSeat_13 : decode cX12_againstSeat 13 = .ok (.iload_n 3, 1) := by decide +kernel
theorem dX12_againstSeat_14 : decode cX12_againstSeat 14 = .ok (.invokevirtual 90, 3) := by decide +kernel
theorem dX12_againstSeat_17 : decode cX12_againstSeat 17 = .ok (.iconst (-1), 1) := by decide +kernel
theorem dX12_againstSeat_18 : decode cX12_againstSeat 18 = .ok (.if_icmp .eq 5, 3) := by decide +kernel
theorem dX12_againstSeat_21 : decode cX12_againstSeat 21 = .ok (.iconst 2, 1) := by decide +kernel
theorem dX12_againstSeat_22 : decode cX12_againstSeat 22 = .ok (.ireturn, 1) := by decide +kernel
theorem dX12_againstSeat_23 : decode cX12_againstSeat 23 = .ok (.aload_n 0, 1) := by decide +kernel
theorem dX12_againstSeat_24 : decode cX12_againstSeat 24 = .ok (.iload_n 1, 1) := by decide +kernel
theorem dX12_againstSeat_25 : decode cX12_againstSeat 25 = .ok (.iconst 2, 1) := by decide +kernel
theorem dX12_againstSeat_26 : decode cX12_againstSeat 26 = .ok (.invokevirtual 76, 3) := by decide +kernel
theorem dX12_againstSeat_29 : decode cX12_againstSeat 29 = .ok (.aload_n 0, 1) := by decide +kernel
theorem dX12_againstSeat_30 : decode cX12_againstSeat 30 = .ok (.iload_n 2, 1) := by decide +kernel
theorem dX12_againstSeat_31 : decode cX12_againstSeat 31 = .ok (.iload_n 3, 1) := by decide +kernel
theorem dX12_againstSeat_32 : decode cX12_againstSeat 32 = .ok (.invokevirtual 142, 3) := by decide +kernel
theorem dX12_againstSeat_35 : decode cX12_againstSeat 35 = .ok (.if_icmp .ge 5, 3) := by decide +kernel
theorem dX12_againstSeat_38 : decode cX12_againstSeat 38 = .ok (.iconst 3, 1) := by decide +kernel
theorem dX12_againstSeat_39 : decode cX12_againstSeat 39 = .ok (.ireturn, 1) := by decide +kernel
theorem dX12_againstSeat_40 : decode cX12_againstSeat 40 = .ok (.aload_n 0, 1) := by decide +kernel
theorem dX12_againstSeat_41 : decode cX12_againstSeat 41 = .ok (.iload_n 2, 1) := by decide +kernel
theorem dX12_againstSeat_42 : decode cX12_againstSeat 42 = .ok (.aload_n 0, 1) := by decide +kernel
theorem dX12_againstSeat_43 : decode cX12_againstSeat 43 = .ok (.iload_n 1, 1) := by decide +kernel
theorem dX12_againstSeat_44 : decode cX12_againstSeat 44 = .ok (.iload_n 2, 1) := by decide +kernel
theorem dX12_againstSeat_45 : decode cX12_againstSeat 45 = .ok (.iload_n 3, 1) := by decide +kernel
theorem dX12_againstSeat_46 : decode cX12_againstSeat 46 = .ok (.invokevirtual 145, 3) := by decide +kernel
theorem dX12_againstSeat_49 : decode cX12_againstSeat 49 = .ok (.invokevirtual 126, 3) := by decide +kernel
theorem dX12_againstSeat_52 : decode cX12_againstSeat 52 = .ok (.ifCond .eq 7, 3) := by decide +kernel
theorem dX12_againstSeat_55 : decode cX12_againstSeat 55 = .ok (.iconst 4, 1) := by decide +kernel
theorem dX12_againstSeat_56 : decode cX12_againstSeat 56 = .ok (.goto 4, 3) := by decide +kernel
theorem dX12_againstSeat_59 : decode cX12_againstSeat 59 = .ok (.iconst 0, 1) := by decide +kernel
theorem dX12_againstSeat_60 : decode cX12_againstSeat 60 = .ok (.ireturn, 1) := by decide +kernel
theorem dX12_againstSale_0 : decode cX12_againstSale 0 = .ok (.aload_n 0, 1) := by decide +kernel
theorem dX12_againstSale_1 : decode cX12_againstSale 1 = .ok (.iload_n 1, 1) := by decide +kernel
theorem dX12_againstSale_2 : decode cX12_againstSale 2 = .ok (.invokevirtual 79, 3) := by decide +kernel
theorem dX12_againstSale_5 : decode cX12_againstSale 5 = .ok (.ifCond .eq 11, 3) := by decide +kernel
theorem dX12_againstSale_8 : decode cX12_againstSale 8 = .ok (.aload_n 0, 1) := by decide +kernel
theorem dX12_againstSale_9 : decode cX12_againstSale 9 = .ok (.iload_n 2, 1) := by decide +kernel
theorem dX12_againstSale_10 : decode cX12_againstSale 10 = .ok (.invokevirtual 79, 3) := by decide +kernel
theorem dX12_againstSale_13 : decode cX12_againstSale 13 = .ok (.ifCond .ne 5, 3) := by decide +kernel
theorem dX12_againstSale_16 : decode cX12_againstSale 16 = .ok (.iconst 5, 1) := by decide +kernel
theorem dX12_againstSale_17 : decode cX12_againstSale 17 = .ok (.ireturn, 1) := by decide +kernel
theorem dX12_againstSale_18 : decode cX12_againstSale 18 = .ok (.aload_n 0, 1) := by decide +kernel
theorem dX12_againstSale_19 : decode cX12_againstSale 19 = .ok (.iload_n 1, 1) := by decide +kernel
theorem dX12_againstSale_20 : decode cX12_againstSale 20 = .ok (.iconst 5, 1) := by decide +kernel
theorem dX12_againstSale_21 : decode cX12_againstSale 21 = .ok (.invokevirtual 76, 3) := by decide +kernel
theorem dX12_againstSale_24 : decode cX12_againstSale 24 = .ok (.aload_n 0, 1) := by decide +kernel
theorem dX12_againstSale_25 : decode cX12_againstSale 25 = .ok (.iload_n 2, 1) := by decide +kernel
theorem dX12_againstSale_26 : decode cX12_againstSale 26 = .ok (.iconst 5, 1) := by decide +kernel
theorem dX12_againstSale_27 : decode cX12_againstSale 27 = .ok (.invokevirtual 76, 3) := by decide +kernel
theorem dX12_againstSale_30 : decode cX12_againstSale 30 = .ok (.if_icmp .eq 6, 3) := by decide +kernel
theorem dX12_againstSale_33 : decode cX12_againstSale 33 = .ok (.bipush 6, 2) := by decide +kernel
theorem dX12_againstSale_35 : decode cX12_againstSale 35 = .ok (.ireturn, 1) := by decide +kernel
theorem dX12_againstSale_36 : decode cX12_againstSale 36 = .ok (.aload_n 0, 1) := by decide +kernel
theorem dX12_againstSale_37 : decode cX12_againstSale 37 = .ok (.iload_n 1, 1) := by decide +kernel
theorem dX12_againstSale_38 : decode cX12_againstSale 38 = .ok (.iconst 1, 1) := by decide +kernel
theorem dX12_againstSale_39 : decode cX12_againstSale 39 = .ok (.invokevirtual 76, 3) := by decide +kernel
theorem dX12_againstSale_42 : decode cX12_againstSale 42 = .ok (.iload_n 3, 1) := by decide +kernel
theorem dX12_againstSale_43 : decode cX12_againstSale 43 = .ok (.isub, 1) := by decide +kernel
theorem dX12_againstSale_44 : decode cX12_againstSale 44 = .ok (.iconst 1, 1) := by decide +kernel
theorem dX12_againstSale_45 : decode cX12_againstSale 45 = .ok (.if_icmp .lt 16, 3) := by decide +kernel
theorem dX12_againstSale_48 : decode cX12_againstSale 48 = .ok (.aload_n 0, 1) := by decide +kernel
theorem dX12_againstSale_49 : decode cX12_againstSale 49 = .ok (.iload_n 2, 1) := by decide +kernel
theorem dX12_againstSale_50 : decode cX12_againstSale 50 = .ok (.iconst 1, 1) := by decide +kernel
theorem dX12_againstSale_51 : decode cX12_againstSale 51 = .ok (.invokevirtual 76, 3) := by decide +kernel
theorem dX12_againstSale_54 : decode cX12_againstSale 54 = .ok (.iload_n 3, 1) := by decide +kernel
theorem dX12_againstSale_55 : decode cX12_againstSale 55 = .ok (.iadd, 1) := by decide +kernel
theorem dX12_againstSale_56 : decode cX12_againstSale 56 = .ok (.bipush 99, 2) := by decide +kernel
theorem dX12_againstSale_58 : decode cX12_againstSale 58 = .ok (.if_icmp .le 6, 3) := by decide +kernel
theorem dX12_againstSale_61 : decode cX12_againstSale 61 = .ok (.bipush 7, 2) := by decide +kernel
theorem dX12_againstSale_63 : decode cX12_againstSale 63 = .ok (.ireturn, 1) := by decide +kernel
theorem dX12_againstSale_64 : decode cX12_againstSale 64 = .ok (.aload_n 0, 1) := by decide +kernel
theorem dX12_againstSale_65 : decode cX12_againstSale 65 = .ok (.iload_n 2, 1) := by decide +kernel
theorem dX12_againstSale_66 : decode cX12_againstSale 66 = .ok (.iconst 2, 1) := by decide +kernel
theorem dX12_againstSale_67 : decode cX12_againstSale 67 = .ok (.invokevirtual 76, 3) := by decide +kernel
theorem dX12_againstSale_70 : decode cX12_againstSale 70 = .ok (.iload_n 3, 1) := by decide +kernel
theorem dX12_againstSale_71 : decode cX12_againstSale 71 = .ok (.aload_n 0, 1) := by decide +kernel
theorem dX12_againstSale_72 : decode cX12_againstSale 72 = .ok (.iload_n 1, 1) := by decide +kernel
theorem dX12_againstSale_73 : decode cX12_againstSale 73 = .ok (.iload_n 2, 1) := by decide +kernel
theorem dX12_againstSale_74 : decode cX12_againstSale 74 = .ok (.invokevirtual 149, 3) := by decide +kernel
theorem dX12_againstSale_77 : decode cX12_againstSale 77 = .ok (.imul, 1) := by decide +kernel
theorem dX12_againstSale_78 : decode cX12_againstSale 78 = .ok (.if_icmp .ge 5, 3) := by decide +kernel
theorem dX12_againstSale_81 : decode cX12_againstSale 81 = .ok (.iconst 3, 1) := by decide +kernel
theorem dX12_againstSale_82 : decode cX12_againstSale 82 = .ok (.ireturn, 1) := by decide +kernel
theorem dX12_againstSale_83 : decode cX12_againstSale 83 = .ok (.aload_n 0, 1) := by decide +kernel
theorem dX12_againstSale_84 : decode cX12_againstSale 84 = .ok (.iload_n 1, 1) := by decide +kernel
theorem dX12_againstSale_85 : decode cX12_againstSale 85 = .ok (.iconst 5, 1) := by decide +kernel
theorem dX12_againstSale_86 : decode cX12_againstSale 86 = .ok (.invokevirtual 76, 3) := by decide +kernel
theorem dX12_againstSale_89 : decode cX12_againstSale 89 = .ok (.istore 4, 2) := by decide +kernel
theorem dX12_againstSale_91 : decode cX12_againstSale 91 = .ok (.aload_n 0, 1) := by decide +kernel
theorem dX12_againstSale_92 : decode cX12_againstSale 92 = .ok (.iload 4, 2) := by decide +kernel
theorem dX12_againstSale_94 : decode cX12_againstSale 94 = .ok (.aload_n 0, 1) := by decide +kernel
theorem dX12_againstSale_95 : decode cX12_againstSale 95 = .ok (.iload 4, 2) := by decide +kernel
theorem dX12_againstSale_97 : decode cX12_againstSale 97 = .ok (.invokevirtual 99, 3) := by decide +kernel
theorem dX12_againstSale_100 : decode cX12_againstSale 100 = .ok (.iload_n 3, 1) := by decide +kernel
theorem dX12_againstSale_101 : decode cX12_againstSale 101 = .ok (.aload_n 0, 1) := by decide +kernel
theorem dX12_againstSale_102 : decode cX12_againstSale 102 = .ok (.iload_n 2, 1) := by decide +kernel
theorem dX12_againstSale_103 : decode cX12_againstSale 103 = .ok (.bipush 6, 2) := by decide +kernel
theorem dX12_againstSale_105 : decode cX12_againstSale 105 = .ok (.invokevirtual 76, 3) := by decide +kernel
theorem dX12_againstSale_108 : decode cX12_againstSale 108 = .ok (.aload_n 0, 1) := by decide +kernel
theorem dX12_againstSale_109 : decode cX12_againstSale 109 = .ok (.iload_n 1, 1) := by decide +kernel
theorem dX12_againstSale_110 : decode cX12_againstSale 110 = .ok (.bipush 6, 2) := by decide +kernel
theorem dX12_againstSale_112 : decode cX12_againstSale 112 = .ok (.invokevirtual 76, 3) := by decide +kernel
theorem dX12_againstSale_115 : decode cX12_againstSale 115 = .ok (.isub, 1) := by decide +kernel
theorem dX12_againstSale_116 : decode cX12_againstSale 116 = .ok (.imul, 1) := by decide +kernel
theorem dX12_againstSale_117 : decode cX12_againstSale 117 = .ok (.iadd, 1) := by decide +kernel
theorem dX12_againstSale_118 : decode cX12_againstSale 118 = .ok (.invokevirtual 126, 3) := by decide +kernel
theorem dX12_againstSale_121 : decode cX12_againstSale 121 = .ok (.ifCond .eq 7, 3) := by decide +kernel
theorem dX12_againstSale_124 : decode cX12_againstSale 124 = .ok (.iconst 4, 1) := by decide +kernel
theorem dX12_againstSale_125 : decode cX12_againstSale 125 = .ok (.goto 4, 3) := by decide +kernel
theorem dX12_againstSale_128 : decode cX12_againstSale 128 = .ok (.iconst 0, 1) := by decide +kernel
theorem dX12_againstSale_129 : decode cX12_againstSale 129 = .ok (.ireturn, 1) := by decide +kernel
theorem dX12_torqueSwapped_0 : decode cX12_torqueSwapped 0 = .ok (.aload_n 0, 1) := by decide +kernel
theorem dX12_torqueSwapped_1 : decode cX12_torqueSwapped 1 = .ok (.aload_n 0, 1) := by decide +kernel
theorem dX12_torqueSwapped_2 : decode cX12_torqueSwapped 2 = .ok (.iload_n 1, 1) := by decide +kernel
theorem dX12_torqueSwapped_3 : decode cX12_torqueSwapped 3 = .ok (.iconst 5, 1) := by decide +kernel
theorem dX12_torqueSwapped_4 : decode cX12_torqueSwapped 4 = .ok (.invokevirtual 76, 3) := by decide +kernel
theorem dX12_torqueSwapped_7 : decode cX12_torqueSwapped 7 = .ok (.invokevirtual 99, 3) := by decide +kernel
theorem dX12_torqueSwapped_10 : decode cX12_torqueSwapped 10 = .ok (.aload_n 0, 1) := by decide +kernel
theorem dX12_torqueSwapped_11 : decode cX12_torqueSwapped 11 = .ok (.iload_n 1, 1) := by decide +kernel
theorem dX12_torqueSwapped_12 : decode cX12_torqueSwapped 12 = .ok (.bipush 6, 2) := by decide +kernel
theorem dX12_torqueSwapped_14 : decode cX12_torqueSwapped 14 = .ok (.invokevirtual 76, 3) := by decide +kernel
theorem dX12_torqueSwapped_17 : decode cX12_torqueSwapped 17 = .ok (.aload_n 0, 1) := by decide +kernel
theorem dX12_torqueSwapped_18 : decode cX12_torqueSwapped 18 = .ok (.iload_n 2, 1) := by decide +kernel
theorem dX12_torqueSwapped_19 : decode cX12_torqueSwapped 19 = .ok (.iconst 1, 1) := by decide +kernel
theorem dX12_torqueSwapped_20 : decode cX12_torqueSwapped 20 = .ok (.invokevirtual 76, 3) := by decide +kernel
theorem dX12_torqueSwapped_23 : decode cX12_torqueSwapped 23 = .ok (.aload_n 0, 1) := by decide +kernel
theorem dX12_torqueSwapped_24 : decode cX12_torqueSwapped 24 = .ok (.iload_n 1, 1) := by decide +kernel
theorem dX12_torqueSwapped_25 : decode cX12_torqueSwapped 25 = .ok (.iconst 1, 1) := by decide +kernel
theorem dX12_torqueSwapped_26 : decode cX12_torqueSwapped 26 = .ok (.invokevirtual 76, 3) := by decide +kernel
theorem dX12_torqueSwapped_29 : decode cX12_torqueSwapped 29 = .ok (.isub, 1) := by decide +kernel
theorem dX12_torqueSwapped_30 : decode cX12_torqueSwapped 30 = .ok (.imul, 1) := by decide +kernel
theorem dX12_torqueSwapped_31 : decode cX12_torqueSwapped 31 = .ok (.iadd, 1) := by decide +kernel
theorem dX12_torqueSwapped_32 : decode cX12_torqueSwapped 32 = .ok (.istore_n 3, 1) := by decide +kernel
theorem dX12_torqueSwapped_33 : decode cX12_torqueSwapped 33 = .ok (.aload_n 0, 1) := by decide +kernel
theorem dX12_torqueSwapped_34 : decode cX12_torqueSwapped 34 = .ok (.iload_n 1, 1) := by decide +kernel
theorem dX12_torqueSwapped_35 : decode cX12_torqueSwapped 35 = .ok (.iconst 5, 1) := by decide +kernel
theorem dX12_torqueSwapped_36 : decode cX12_torqueSwapped 36 = .ok (.invokevirtual 76, 3) := by decide +kernel
theorem dX12_torqueSwapped_39 : decode cX12_torqueSwapped 39 = .ok (.aload_n 0, 1) := by decide +kernel
theorem dX12_torqueSwapped_40 : decode cX12_torqueSwapped 40 = .ok (.iload_n 2, 1) := by decide +kernel
theorem dX12_torqueSwapped_41 : decode cX12_torqueSwapped 41 = .ok (.iconst 5, 1) := by decide +kernel
theorem dX12_torqueSwapped_42 : decode cX12_torqueSwapped 42 = .ok (.invokevirtual 76, 3) := by decide +kernel
theorem dX12_torqueSwapped_45 : decode cX12_torqueSwapped 45 = .ok (.if_icmp .ne 27, 3) := by decide +kernel
theorem dX12_torqueSwapped_48 : decode cX12_torqueSwapped 48 = .ok (.iload_n 3, 1) := by decide +kernel
theorem dX12_torqueSwapped_49 : decode cX12_torqueSwapped 49 = .ok (.aload_n 0, 1) := by decide +kernel
theorem dX12_torqueSwapped_50 : decode cX12_torqueSwapped 50 = .ok (.iload_n 2, 1) := by decide +kernel
theorem dX12_torqueSwapped_51 : decode cX12_torqueSwapped 51 = .ok (.bipush 6, 2) := by decide +kernel
theorem dX12_torqueSwapped_53 : decode cX12_torqueSwapped 53 = .ok (.invokevirtual 76, 3) := by decide +kernel
theorem dX12_torqueSwapped_56 : decode cX12_torqueSwapped 56 = .ok (.aload_n 0, 1) := by decide +kernel
theorem dX12_torqueSwapped_57 : decode cX12_torqueSwapped 57 = .ok (.iload_n 1, 1) := by decide +kernel
theorem dX12_torqueSwapped_58 : decode cX12_torqueSwapped 58 = .ok (.iconst 1, 1) := by decide +kernel
theorem dX12_torqueSwapped_59 : decode cX12_torqueSwapped 59 = .ok (.invokevirtual 76, 3) := by decide +kernel
theorem dX12_torqueSwapped_62 : decode cX12_torqueSwapped 62 = .ok (.aload_n 0, 1) := by decide +kernel
theorem dX12_torqueSwapped_63 : decode cX12_torqueSwapped 63 = .ok (.iload_n 2, 1) := by decide +kernel
theorem dX12_torqueSwapped_64 : decode cX12_torqueSwapped 64 = .ok (.iconst 1, 1) := by decide +kernel
theorem dX12_torqueSwapped_65 : decode cX12_torqueSwapped 65 = .ok (.invokevirtual 76, 3) := by decide +kernel
theorem dX12_torqueSwapped_68 : decode cX12_torqueSwapped 68 = .ok (.isub, 1) := by decide +kernel
theorem dX12_torqueSwapped_69 : decode cX12_torqueSwapped 69 = .ok (.imul, 1) := by decide +kernel
theorem dX12_torqueSwapped_70 : decode cX12_torqueSwapped 70 = .ok (.iadd, 1) := by decide +kernel
theorem dX12_torqueSwapped_71 : decode cX12_torqueSwapped 71 = .ok (.istore_n 3, 1) := by decide +kernel
theorem dX12_torqueSwapped_72 : decode cX12_torqueSwapped 72 = .ok (.iload_n 3, 1) := by decide +kernel
theorem dX12_torqueSwapped_73 : decode cX12_torqueSwapped 73 = .ok (.ireturn, 1) := by decide +kernel
theorem dX12_againstSwap_0 : decode cX12_againstSwap 0 = .ok (.aload_n 0, 1) := by decide +kernel
theorem dX12_againstSwap_1 : decode cX12_againstSwap 1 = .ok (.iload_n 1, 1) := by decide +kernel
theorem dX12_againstSwap_2 : decode cX12_againstSwap 2 = .ok (.invokevirtual 79, 3) := by decide +kernel
theorem dX12_againstSwap_5 : decode cX12_againstSwap 5 = .ok (.ifCond .eq 11, 3) := by decide +kernel
theorem dX12_againstSwap_8 : decode cX12_againstSwap 8 = .ok (.aload_n 0, 1) := by decide +kernel
theorem dX12_againstSwap_9 : decode cX12_againstSwap 9 = .ok (.iload_n 2, 1) := by decide +kernel
theorem dX12_againstSwap_10 : decode cX12_againstSwap 10 = .ok (.invokevirtual 79, 3) := by decide +kernel
theorem dX12_againstSwap_13 : decode cX12_againstSwap 13 = .ok (.ifCond .ne 5, 3) := by decide +kernel
theorem dX12_againstSwap_16 : decode cX12_againstSwap 16 = .ok (.iconst 5, 1) := by decide +kernel
theorem dX12_againstSwap_17 : decode cX12_againstSwap 17 = .ok (.ireturn, 1) := by decide +kernel
theorem dX12_againstSwap_18 : decode cX12_againstSwap 18 = .ok (.aload_n 0, 1) := by decide +kernel
theorem dX12_againstSwap_19 : decode cX12_againstSwap 19 = .ok (.iload_n 2, 1) := by decide +kernel
theorem dX12_againstSwap_20 : decode cX12_againstSwap 20 = .ok (.invokevirtual 112, 3) := by decide +kernel
theorem dX12_againstSwap_23 : decode cX12_againstSwap 23 = .ok (.aload_n 0, 1) := by decide +kernel
theorem dX12_againstSwap_24 : decode cX12_againstSwap 24 = .ok (.iload_n 1, 1) := by decide +kernel
theorem dX12_againstSwap_25 : decode cX12_againstSwap 25 = .ok (.invokevirtual 112, 3) := by decide +kernel
theorem dX12_againstSwap_28 : decode cX12_againstSwap 28 = .ok (.isub, 1) := by decide +kernel
theorem dX12_againstSwap_29 : decode cX12_againstSwap 29 = .ok (.istore_n 3, 1) := by decide +kernel
theorem dX12_againstSwap_30 : decode cX12_againstSwap 30 = .ok (.aload_n 0, 1) := by decide +kernel
theorem dX12_againstSwap_31 : decode cX12_againstSwap 31 = .ok (.iload_n 3, 1) := by decide +kernel
theorem dX12_againstSwap_32 : decode cX12_againstSwap 32 = .ok (.ifCond .le 7, 3) := by decide +kernel
theorem dX12_againstSwap_35 : decode cX12_againstSwap 35 = .ok (.iload_n 1, 1) := by decide +kernel
theorem dX12_againstSwap_36 : decode cX12_againstSwap 36 = .ok (.goto 4, 3) := by decide +kernel
theorem dX12_againstSwap_39 : decode cX12_againstSwap 39 = .ok (.iload_n 2, 1) := by decide +kernel
theorem dX12_againstSwap_40 : decode cX12_againstSwap 40 = .ok (.iconst 2, 1) := by decide +kernel
theorem dX12_againstSwap_41 : decode cX12_againstSwap 41 = .ok (.invokevirtual 76, 3) := by decide +kernel
theorem dX12_againstSwap_44 : decode cX12_againstSwap 44 = .ok (.iload_n 3, 1) := by decide +kernel
theorem dX12_againstSwap_45 : decode cX12_againstSwap 45 = .ok (.invokestatic 109, 3) := by decide +kernel
theorem dX12_againstSwap_48 : decode cX12_againstSwap 48 = .ok (.if_icmp .ge 5, 3) := by decide +kernel
theorem dX12_againstSwap_51 : decode cX12_againstSwap 51 = .ok (.iconst 3, 1) := by decide +kernel
theorem dX12_againstSwap_52 : decode cX12_againstSwap 52 = .ok (.ireturn, 1) := by decide +kernel
theorem dX12_againstSwap_53 : decode cX12_againstSwap 53 = .ok (.aload_n 0, 1) := by decide +kernel
theorem dX12_againstSwap_54 : decode cX12_againstSwap 54 = .ok (.aload_n 0, 1) := by decide +kernel
theorem dX12_againstSwap_55 : decode cX12_againstSwap 55 = .ok (.iload_n 1, 1) := by decide +kernel
theorem dX12_againstSwap_56 : decode cX12_againstSwap 56 = .ok (.iconst 5, 1) := by decide +kernel
theorem dX12_againstSwap_57 : decode cX12_againstSwap 57 = .ok (.invokevirtual 76, 3) := by decide +kernel
theorem dX12_againstSwap_60 : decode cX12_againstSwap 60 = .ok (.aload_n 0, 1) := by decide +kernel
theorem dX12_againstSwap_61 : decode cX12_againstSwap 61 = .ok (.iload_n 1, 1) := by decide +kernel
theorem dX12_againstSwap_62 : decode cX12_againstSwap 62 = .ok (.iload_n 2, 1) := by decide +kernel
theorem dX12_againstSwap_63 : decode cX12_againstSwap 63 = .ok (.invokevirtual 152, 3) := by decide +kernel
theorem dX12_againstSwap_66 : decode cX12_againstSwap 66 = .ok (.invokevirtual 126, 3) := by decide +kernel
theorem dX12_againstSwap_69 : decode cX12_againstSwap 69 = .ok (.ifCond .ne 22, 3) := by decide +kernel
theorem dX12_againstSwap_72 : decode cX12_againstSwap 72 = .ok (.aload_n 0, 1) := by decide +kernel
theorem dX12_againstSwap_73 : decode cX12_againstSwap 73 = .ok (.aload_n 0, 1) := by decide +kernel
theorem dX12_againstSwap_74 : decode cX12_againstSwap 74 = .ok (.iload_n 2, 1) := by decide +kernel
theorem dX12_againstSwap_75 : decode cX12_againstSwap 75 = .ok (.iconst 5, 1) := by decide +kernel
theorem dX12_againstSwap_76 : decode cX12_againstSwap 76 = .ok (.invokevirtual 76, 3) := by decide +kernel
theorem dX12_againstSwap_79 : decode cX12_againstSwap 79 = .ok (.aload_n 0, 1) := by decide +kernel
theorem dX12_againstSwap_80 : decode cX12_againstSwap 80 = .ok (.iload_n 2, 1) := by decide +kernel
theorem dX12_againstSwap_81 : decode cX12_againstSwap 81 = .ok (.iload_n 1, 1) := by decide +kernel
theorem dX12_againstSwap_82 : decode cX12_againstSwap 82 = .ok (.invokevirtual 152, 3) := by decide +kernel
theorem dX12_againstSwap_85 : decode cX12_againstSwap 85 = .ok (.invokevirtual 126, 3) := by decide +kernel
theorem dX12_againstSwap_88 : decode cX12_againstSwap 88 = .ok (.ifCond .eq 7, 3) := by decide +kernel
theorem dX12_againstSwap_91 : decode cX12_againstSwap 91 = .ok (.iconst 1, 1) := by decide +kernel
theorem dX12_againstSwap_92 : decode cX12_againstSwap 92 = .ok (.goto 4, 3) := by decide +kernel
theorem dX12_againstSwap_95 : decode cX12_againstSwap 95 = .ok (.iconst 0, 1) := by decide +kernel
theorem dX12_againstSwap_96 : decode cX12_againstSwap 96 = .ok (.istore 4, 2) := by decide +kernel
theorem dX12_againstSwap_98 : decode cX12_againstSwap 98 = .ok (.iload 4, 2) := by decide +kernel
theorem dX12_againstSwap_100 : decode cX12_againstSwap 100 = .ok (.ifCond .eq 7, 3) := by decide +kernel
theorem dX12_againstSwap_103 : decode cX12_againstSwap 103 = .ok (.iconst 4, 1) := by decide +kernel
theorem dX12_againstSwap_104 : decode cX12_againstSwap 104 = .ok (.goto 4, 3) := by decide +kernel
theorem dX12_againstSwap_107 : decode cX12_againstSwap 107 = .ok (.iconst 0, 1) := by decide +kernel
theorem dX12_againstSwap_108 : decode cX12_againstSwap 108 = .ok (.ireturn, 1) := by decide +kernel
theorem dX12_buys_0 : decode cX12_buys 0 = .ok (.aload_n 0, 1) := by decide +kernel
theorem dX12_buys_1 : decode cX12_buys 1 = .ok (.iload_n 2, 1) := by decide +kernel
theorem dX12_buys_2 : decode cX12_buys 2 = .ok (.iload_n 3, 1) := by decide +kernel
theorem dX12_buys_3 : decode cX12_buys 3 = .ok (.invokevirtual 142, 3) := by decide +kernel
theorem dX12_buys_6 : decode cX12_buys 6 = .ok (.istore 4, 2) := by decide +kernel
theorem dX12_buys_8 : decode cX12_buys 8 = .ok (.aload_n 0, 1) := by decide +kernel
theorem dX12_buys_9 : decode cX12_buys 9 = .ok (.iload_n 1, 1) := by decide +kernel
theorem dX12_buys_10 : decode cX12_buys 10 = .ok (.iconst 2, 1) := by decide +kernel
theorem dX12_buys_11 : decode cX12_buys 11 = .ok (.invokestatic 70, 3) := by decide +kernel
theorem dX12_buys_14 : decode cX12_buys 14 = .ok (.iconst 5, 1) := by decide +kernel
theorem dX12_buys_15 : decode cX12_buys 15 = .ok (.iload 4, 2) := by decide +kernel
theorem dX12_buys_17 : decode cX12_buys 17 = .ok (.invokevirtual 115, 3) := by decide +kernel
theorem dX12_buys_20 : decode cX12_buys 20 = .ok (.aload_n 0, 1) := by decide +kernel
theorem dX12_buys_21 : decode cX12_buys 21 = .ok (.iload_n 1, 1) := by decide +kernel
theorem dX12_buys_22 : decode cX12_buys 22 = .ok (.invokevirtual 118, 3) := by decide +kernel
theorem dX12_buys_25 : decode cX12_buys 25 = .ok (.aload_n 0, 1) := by decide +kernel
theorem dX12_buys_26 : decode cX12_buys 26 = .ok (.iload_n 1, 1) := by decide +kernel
theorem dX12_buys_27 : decode cX12_buys 27 = .ok (.iload_n 2, 1) := by decide +kernel
theorem dX12_buys_28 : decode cX12_buys 28 = .ok (.iload_n 3, 1) := by decide +kernel
theorem dX12_buys_29 : decode cX12_buys 29 = .ok (.invokevirtual 56, 3) := by decide +kernel
theorem dX12_buys_32 : decode cX12_buys 32 = .ok (.aload_n 0, 1) := by decide +kernel
theorem dX12_buys_33 : decode cX12_buys 33 = .ok (.getfield 7, 3) := by decide +kernel
theorem dX12_buys_36 : decode cX12_buys 36 = .ok (.bipush 10, 2) := by decide +kernel
theorem dX12_buys_38 : decode cX12_buys 38 = .ok (.dup2, 1) := by decide +kernel
theorem dX12_buys_39 : decode cX12_buys 39 = .ok (.iaload, 1) := by decide +kernel
theorem dX12_buys_40 : decode cX12_buys 40 = .ok (.iconst 1, 1) := by decide +kernel
theorem dX12_buys_41 : decode cX12_buys 41 = .ok (.iadd, 1) := by decide +kernel
theorem dX12_buys_42 : decode cX12_buys 42 = .ok (.iastore, 1) := by decide +kernel
theorem dX12_buys_43 : decode cX12_buys 43 = .ok (.iload 4, 2) := by decide +kernel
theorem dX12_buys_45 : decode cX12_buys 45 = .ok (.ireturn, 1) := by decide +kernel
theorem dX12_sells_0 : decode cX12_sells 0 = .ok (.iload_n 3, 1) := by decide +kernel
theorem dX12_sells_1 : decode cX12_sells 1 = .ok (.aload_n 0, 1) := by decide +kernel
theorem dX12_sells_2 : decode cX12_sells 2 = .ok (.iload_n 1, 1) := by decide +kernel
theorem dX12_sells_3 : decode cX12_sells 3 = .ok (.iload_n 2, 1) := by decide +kernel
theorem dX12_sells_4 : decode cX12_sells 4 = .ok (.invokevirtual 149, 3) := by decide +kernel
theorem dX12_sells_7 : decode cX12_sells 7 = .ok (.imul, 1) := by decide +kernel
theorem dX12_sells_8 : decode cX12_sells 8 = .ok (.istore 4, 2) := by decide +kernel
theorem dX12_sells_10 : decode cX12_sells 10 = .ok (.aload_n 0, 1) := by decide +kernel
theorem dX12_sells_11 : decode cX12_sells 11 = .ok (.iload_n 2, 1) := by decide +kernel
theorem dX12_sells_12 : decode cX12_sells 12 = .ok (.iconst 2, 1) := by decide +kernel
theorem dX12_sells_13 : decode cX12_sells 13 = .ok (.invokestatic 70, 3) := by decide +kernel
theorem dX12_sells_16 : decode cX12_sells 16 = .ok (.iload_n 1, 1) := by decide +kernel
theorem dX12_sells_17 : decode cX12_sells 17 = .ok (.iconst 2, 1) := by decide +kernel
theorem dX12_sells_18 : decode cX12_sells 18 = .ok (.invokestatic 70, 3) := by decide +kernel
theorem dX12_sells_21 : decode cX12_sells 21 = .ok (.iload 4, 2) := by decide +kernel
theorem dX12_sells_23 : decode cX12_sells 23 = .ok (.invokevirtual 115, 3) := by decide +kernel
theorem dX12_sells_26 : decode cX12_sells 26 = .ok (.aload_n 0, 1) := by decide +kernel
theorem dX12_sells_27 : decode cX12_sells 27 = .ok (.getfield 7, 3) := by decide +kernel
theorem dX12_sells_30 : decode cX12_sells 30 = .ok (.iload_n 1, 1) := by decide +kernel
theorem dX12_sells_31 : decode cX12_sells 31 = .ok (.iconst 1, 1) := by decide +kernel
theorem dX12_sells_32 : decode cX12_sells 32 = .ok (.invokestatic 70, 3) := by decide +kernel
theorem dX12_sells_35 : decode cX12_sells 35 = .ok (.dup2, 1) := by decide +kernel
theorem dX12_sells_36 : decode cX12_sells 36 = .ok (.iaload, 1) := by decide +kernel
theorem dX12_sells_37 : decode cX12_sells 37 = .ok (.iload_n 3, 1) := by decide +kernel
theorem dX12_sells_38 : decode cX12_sells 38 = .ok (.isub, 1) := by decide +kernel
theorem dX12_sells_39 : decode cX12_sells 39 = .ok (.iastore, 1) := by decide +kernel
theorem dX12_sells_40 : decode cX12_sells 40 = .ok (.aload_n 0, 1) := by decide +kernel
theorem dX12_sells_41 : decode cX12_sells 41 = .ok (.getfield 7, 3) := by decide +kernel
theorem dX12_sells_44 : decode cX12_sells 44 = .ok (.iload_n 2, 1) := by decide +kernel
theorem dX12_sells_45 : decode cX12_sells 45 = .ok (.iconst 1, 1) := by decide +kernel
theorem dX12_sells_46 : decode cX12_sells 46 = .ok (.invokestatic 70, 3) := by decide +kernel
theorem dX12_sells_49 : decode cX12_sells 49 = .ok (.dup2, 1) := by decide +kernel
theorem dX12_sells_50 : decode cX12_sells 50 = .ok (.iaload, 1) := by decide +kernel
theorem dX12_sells_51 : decode cX12_sells 51 = .ok (.iload_n 3, 1) := by decide +kernel
theorem dX12_sells_52 : decode cX12_sells 52 = .ok (.iadd, 1) := by decide +kernel
theorem dX12_sells_53 : decode cX12_sells 53 = .ok (.iastore, 1) := by decide +kernel
theorem dX12_sells_54 : decode cX12_sells 54 = .ok (.aload_n 0, 1) := by decide +kernel
theorem dX12_sells_55 : decode cX12_sells 55 = .ok (.getfield 7, 3) := by decide +kernel
theorem dX12_sells_58 : decode cX12_sells 58 = .ok (.bipush 11, 2) := by decide +kernel
theorem dX12_sells_60 : decode cX12_sells 60 = .ok (.dup2, 1) := by decide +kernel
theorem dX12_sells_61 : decode cX12_sells 61 = .ok (.iaload, 1) := by decide +kernel
theorem dX12_sells_62 : decode cX12_sells 62 = .ok (.iload_n 3, 1) := by decide +kernel
theorem dX12_sells_63 : decode cX12_sells 63 = .ok (.iadd, 1) := by decide +kernel
theorem dX12_sells_64 : decode cX12_sells 64 = .ok (.iastore, 1) := by decide +kernel
theorem dX12_sells_65 : decode cX12_sells 65 = .ok (.iload 4, 2) := by decide +kernel
theorem dX12_sells_67 : decode cX12_sells 67 = .ok (.ireturn, 1) := by decide +kernel
theorem dX12_swaps_0 : decode cX12_swaps 0 = .ok (.aload_n 0, 1) := by decide +kernel
theorem dX12_swaps_1 : decode cX12_swaps 1 = .ok (.iload_n 2, 1) := by decide +kernel
theorem dX12_swaps_2 : decode cX12_swaps 2 = .ok (.invokevirtual 112, 3) := by decide +kernel
theorem dX12_swaps_5 : decode cX12_swaps 5 = .ok (.aload_n 0, 1) := by decide +kernel
theorem dX12_swaps_6 : decode cX12_swaps 6 = .ok (.iload_n 1, 1) := by decide +kernel
theorem dX12_swaps_7 : decode cX12_swaps 7 = .ok (.invokevirtual 112, 3) := by decide +kernel
theorem dX12_swaps_10 : decode cX12_swaps 10 = .ok (.isub, 1) := by decide +kernel
theorem dX12_swaps_11 : decode cX12_swaps 11 = .ok (.istore_n 3, 1) := by decide +kernel
theorem dX12_swaps_12 : decode cX12_swaps 12 = .ok (.aload_n 0, 1) := by decide +kernel
theorem dX12_swaps_13 : decode cX12_swaps 13 = .ok (.iload_n 3, 1) := by decide +kernel
theorem dX12_swaps_14 : decode cX12_swaps 14 = .ok (.ifCond .le 7, 3) := by decide +kernel
theorem dX12_swaps_17 : decode cX12_swaps 17 = .ok (.iload_n 1, 1) := by decide +kernel
theorem dX12_swaps_18 : decode cX12_swaps 18 = .ok (.goto 4, 3) := by decide +kernel
theorem dX12_swaps_21 : decode cX12_swaps 21 = .ok (.iload_n 2, 1) := by decide +kernel
theorem dX12_swaps_22 : decode cX12_swaps 22 = .ok (.iconst 2, 1) := by decide +kernel
theorem dX12_swaps_23 : decode cX12_swaps 23 = .ok (.invokestatic 70, 3) := by decide +kernel
theorem dX12_swaps_26 : decode cX12_swaps 26 = .ok (.iload_n 3, 1) := by decide +kernel
theorem dX12_swaps_27 : decode cX12_swaps 27 = .ok (.ifCond .le 7, 3) := by decide +kernel
theorem dX12_swaps_30 : decode cX12_swaps 30 = .ok (.iload_n 2, 1) := by decide +kernel
theorem dX12_swaps_31 : decode cX12_swaps 31 = .ok (.goto 4, 3) := by decide +kernel
theorem dX12_swaps_34 : decode cX12_swaps 34 = .ok (.iload_n 1, 1) := by decide +kernel
theorem dX12_swaps_35 : decode cX12_swaps 35 = .ok (.iconst 2, 1) := by decide +kernel
theorem dX12_swaps_36 : decode cX12_swaps 36 = .ok (.invokestatic 70, 3) := by decide +kernel
theorem dX12_swaps_39 : decode cX12_swaps 39 = .ok (.iload_n 3, 1) := by decide +kernel
theorem dX12_swaps_40 : decode cX12_swaps 40 = .ok (.invokestatic 109, 3) := by decide +kernel
theorem dX12_swaps_43 : decode cX12_swaps 43 = .ok (.invokevirtual 115, 3) := by decide +kernel
theorem dX12_swaps_46 : decode cX12_swaps 46 = .ok (.aload_n 0, 1) := by decide +kernel
theorem dX12_swaps_47 : decode cX12_swaps 47 = .ok (.iload_n 1, 1) := by decide +kernel
theorem dX12_swaps_48 : decode cX12_swaps 48 = .ok (.iconst 5, 1) := by decide +kernel
theorem dX12_swaps_49 : decode cX12_swaps 49 = .ok (.invokevirtual 76, 3) := by decide +kernel
theorem dX12_swaps_52 : decode cX12_swaps 52 = .ok (.istore 4, 2) := by decide +kernel
theorem dX12_swaps_54 : decode cX12_swaps 54 = .ok (.aload_n 0, 1) := by decide +kernel
theorem dX12_swaps_55 : decode cX12_swaps 55 = .ok (.iload_n 1, 1) := by decide +kernel
theorem dX12_swaps_56 : decode cX12_swaps 56 = .ok (.bipush 6, 2) := by decide +kernel
theorem dX12_swaps_58 : decode cX12_swaps 58 = .ok (.invokevirtual 76, 3) := by decide +kernel
theorem dX12_swaps_61 : decode cX12_swaps 61 = .ok (.istore 5, 2) := by decide +kernel
theorem dX12_swaps_63 : decode cX12_swaps 63 = .ok (.aload_n 0, 1) := by decide +kernel
theorem dX12_swaps_64 : decode cX12_swaps 64 = .ok (.iload_n 1, 1) := by decide +kernel
theorem dX12_swaps_65 : decode cX12_swaps 65 = .ok (.aload_n 0, 1) := by decide +kernel
theorem dX12_swaps_66 : decode cX12_swaps 66 = .ok (.iload_n 2, 1) := by decide +kernel
theorem dX12_swaps_67 : decode cX12_swaps 67 = .ok (.iconst 5, 1) := by decide +kernel
theorem dX12_swaps_68 : decode cX12_swaps 68 = .ok (.invokevirtual 76, 3) := by decide +kernel
theorem dX12_swaps_71 : decode cX12_swaps 71 = .ok (.aload_n 0, 1) := by decide +kernel
theorem dX12_swaps_72 : decode cX12_swaps 72 = .ok (.iload_n 2, 1) := by decide +kernel
theorem dX12_swaps_73 : decode cX12_swaps 73 = .ok (.bipush 6, 2) := by decide +kernel
theorem dX12_swaps_75 : decode cX12_swaps 75 = .ok (.invokevirtual 76, 3) := by decide +kernel
theorem dX12_swaps_78 : decode cX12_swaps 78 = .ok (.invokevirtual 56, 3) := by decide +kernel
theorem dX12_swaps_81 : decode cX12_swaps 81 = .ok (.aload_n 0, 1) := by decide +kernel
theorem dX12_swaps_82 : decode cX12_swaps 82 = .ok (.iload_n 2, 1) := by decide +kernel
theorem dX12_swaps_83 : decode cX12_swaps 83 = .ok (.iload 4, 2) := by decide +kernel
theorem dX12_swaps_85 : decode cX12_swaps 85 = .ok (.iload 5, 2) := by decide +kernel
theorem dX12_swaps_87 : decode cX12_swaps 87 = .ok (.invokevirtual 56, 3) := by decide +kernel
theorem dX12_swaps_90 : decode cX12_swaps 90 = .ok (.iload_n 3, 1) := by decide +kernel
theorem dX12_swaps_91 : decode cX12_swaps 91 = .ok (.ireturn, 1) := by decide +kernel
theorem dX12_joins_0 : decode cX12_joins 0 = .ok (.aload_n 0, 1) := by decide +kernel
theorem dX12_joins_1 : decode cX12_joins 1 = .ok (.iload_n 1, 1) := by decide +kernel
theorem dX12_joins_2 : decode cX12_joins 2 = .ok (.iload_n 2, 1) := by decide +kernel
theorem dX12_joins_3 : decode cX12_joins 3 = .ok (.iload_n 3, 1) := by decide +kernel
theorem dX12_joins_4 : decode cX12_joins 4 = .ok (.iconst 0, 1) := by decide +kernel
theorem dX12_joins_5 : decode cX12_joins 5 = .ok (.invokevirtual 52, 3) := by decide +kernel
theorem dX12_joins_8 : decode cX12_joins 8 = .ok (.aload_n 0, 1) := by decide +kernel
theorem dX12_joins_9 : decode cX12_joins 9 = .ok (.getfield 7, 3) := by decide +kernel
theorem dX12_joins_12 : decode cX12_joins 12 = .ok (.bipush 9, 2) := by decide +kernel
theorem dX12_joins_14 : decode cX12_joins 14 = .ok (.dup2, 1) := by decide +kernel
theorem dX12_joins_15 : decode cX12_joins 15 = .ok (.iaload, 1) := by decide +kernel
theorem dX12_joins_16 : decode cX12_joins 16 = .ok (.iload_n 3, 1) := by decide +kernel
theorem dX12_joins_17 : decode cX12_joins 17 = .ok (.iadd, 1) := by decide +kernel
theorem dX12_joins_18 : decode cX12_joins 18 = .ok (.iastore, 1) := by decide +kernel
theorem dX12_joins_19 : decode cX12_joins 19 = .ok (.aload_n 0, 1) := by decide +kernel
theorem dX12_joins_20 : decode cX12_joins 20 = .ok (.getfield 7, 3) := by decide +kernel
theorem dX12_joins_23 : decode cX12_joins 23 = .ok (.bipush 8, 2) := by decide +kernel
theorem dX12_joins_25 : decode cX12_joins 25 = .ok (.iaload, 1) := by decide +kernel
theorem dX12_joins_26 : decode cX12_joins 26 = .ok (.iconst 1, 1) := by decide +kernel
theorem dX12_joins_27 : decode cX12_joins 27 = .ok (.isub, 1) := by decide +kernel
theorem dX12_joins_28 : decode cX12_joins 28 = .ok (.ireturn, 1) := by decide +kernel
theorem dX12_leaves_0 : decode cX12_leaves 0 = .ok (.aload_n 0, 1) := by decide +kernel
theorem dX12_leaves_1 : decode cX12_leaves 1 = .ok (.iload_n 1, 1) := by decide +kernel
theorem dX12_leaves_2 : decode cX12_leaves 2 = .ok (.iconst 5, 1) := by decide +kernel
theorem dX12_leaves_3 : decode cX12_leaves 3 = .ok (.invokevirtual 76, 3) := by decide +kernel
theorem dX12_leaves_6 : decode cX12_leaves 6 = .ok (.istore_n 2, 1) := by decide +kernel
theorem dX12_leaves_7 : decode cX12_leaves 7 = .ok (.aload_n 0, 1) := by decide +kernel
theorem dX12_leaves_8 : decode cX12_leaves 8 = .ok (.iload_n 1, 1) := by decide +kernel
theorem dX12_leaves_9 : decode cX12_leaves 9 = .ok (.invokevirtual 118, 3) := by decide +kernel
theorem dX12_leaves_12 : decode cX12_leaves 12 = .ok (.iload_n 2, 1) := by decide +kernel
theorem dX12_leaves_13 : decode cX12_leaves 13 = .ok (.ireturn, 1) := by decide +kernel
theorem dX12_setsWage_0 : decode cX12_setsWage 0 = .ok (.aload_n 0, 1) := by decide +kernel
theorem dX12_setsWage_1 : decode cX12_setsWage 1 = .ok (.getfield 7, 3) := by decide +kernel
theorem dX12_setsWage_4 : decode cX12_setsWage 4 = .ok (.iconst 0, 1) := by decide +kernel
theorem dX12_setsWage_5 : decode cX12_setsWage 5 = .ok (.iaload, 1) := by decide +kernel
theorem dX12_setsWage_6 : decode cX12_setsWage 6 = .ok (.istore_n 2, 1) := by decide +kernel
theorem dX12_setsWage_7 : decode cX12_setsWage 7 = .ok (.aload_n 0, 1) := by decide +kernel
theorem dX12_setsWage_8 : decode cX12_setsWage 8 = .ok (.getfield 7, 3) := by decide +kernel
theorem dX12_setsWage_11 : decode cX12_setsWage 11 = .ok (.iconst 0, 1) := by decide +kernel
theorem dX12_setsWage_12 : decode cX12_setsWage 12 = .ok (.iload_n 1, 1) := by decide +kernel
theorem dX12_setsWage_13 : decode cX12_setsWage 13 = .ok (.iastore, 1) := by decide +kernel
theorem dX12_setsWage_14 : decode cX12_setsWage 14 = .ok (.iload_n 2, 1) := by decide +kernel
theorem dX12_setsWage_15 : decode cX12_setsWage 15 = .ok (.ireturn, 1) := by decide +kernel
theorem dX12_bytesIn_0 : decode cX12_bytesIn 0 = .ok (.iconst 0, 1) := by decide +kernel
theorem dX12_bytesIn_1 : decode cX12_bytesIn 1 = .ok (.istore_n 2, 1) := by decide +kernel
theorem dX12_bytesIn_2 : decode cX12_bytesIn 2 = .ok (.bipush 24, 2) := by decide +kernel
theorem dX12_bytesIn_4 : decode cX12_bytesIn 4 = .ok (.istore_n 3, 1) := by decide +kernel
theorem dX12_bytesIn_5 : decode cX12_bytesIn 5 = .ok (.iload_n 3, 1) := by decide +kernel
theorem dX12_bytesIn_6 : decode cX12_bytesIn 6 = .ok (.ifCond .lt 27, 3) := by decide +kernel
theorem dX12_bytesIn_9 : decode cX12_bytesIn 9 = .ok (.iload_n 2, 1) := by decide +kernel
theorem dX12_bytesIn_10 : decode cX12_bytesIn 10 = .ok (.iload_n 1, 1) := by decide +kernel
theorem dX12_bytesIn_11 : decode cX12_bytesIn 11 = .ok (.iload_n 3, 1) := by decide +kernel
theorem dX12_bytesIn_12 : decode cX12_bytesIn 12 = .ok (.ishr, 1) := by decide +kernel
theorem dX12_bytesIn_13 : decode cX12_bytesIn 13 = .ok (.sipush 255, 3) := by decide +kernel
theorem dX12_bytesIn_16 : decode cX12_bytesIn 16 = .ok (.iand, 1) := by decide +kernel
theorem dX12_bytesIn_17 : decode cX12_bytesIn 17 = .ok (.ifCond .eq 7, 3) := by decide +kernel
theorem dX12_bytesIn_20 : decode cX12_bytesIn 20 = .ok (.iconst 1, 1) := by decide +kernel
theorem dX12_bytesIn_21 : decode cX12_bytesIn 21 = .ok (.goto 4, 3) := by decide +kernel
theorem dX12_bytesIn_24 : decode cX12_bytesIn 24 = .ok (.iconst 0, 1) := by decide +kernel
theorem dX12_bytesIn_25 : decode cX12_bytesIn 25 = .ok (.iadd, 1) := by decide +kernel
theorem dX12_bytesIn_26 : decode cX12_bytesIn 26 = .ok (.istore_n 2, 1) := by decide +kernel
theorem dX12_bytesIn_27 : decode cX12_bytesIn 27 = .ok (.iinc 3 (-8), 3) := by decide +kernel
theorem dX12_bytesIn_30 : decode cX12_bytesIn 30 = .ok (.goto (-25), 3) := by decide +kernel
theorem dX12_bytesIn_33 : decode cX12_bytesIn 33 = .ok (.iload_n 2, 1) := by decide +kernel
theorem dX12_bytesIn_34 : decode cX12_bytesIn 34 = .ok (.ireturn, 1) := by decide +kernel
theorem dX12_four_0 : decode cX12_four 0 = .ok (.bipush 24, 2) := by decide +kernel
theorem dX12_four_2 : decode cX12_four 2 = .ok (.istore_n 2, 1) := by decide +kernel
theorem dX12_four_3 : decode cX12_four 3 = .ok (.iload_n 2, 1) := by decide +kernel
theorem dX12_four_4 : decode cX12_four 4 = .ok (.ifCond .lt 45, 3) := by decide +kernel
theorem dX12_four_7 : decode cX12_four 7 = .ok (.iload_n 1, 1) := by decide +kernel
theorem dX12_four_8 : decode cX12_four 8 = .ok (.iload_n 2, 1) := by decide +kernel
theorem dX12_four_9 : decode cX12_four 9 = .ok (.ishr, 1) := by decide +kernel
theorem dX12_four_10 : decode cX12_four 10 = .ok (.sipush 255, 3) := by decide +kernel
theorem dX12_four_13 : decode cX12_four 13 = .ok (.iand, 1) := by decide +kernel
theorem dX12_four_14 : decode cX12_four 14 = .ok (.ifCond .eq 29, 3) := by decide +kernel
theorem dX12_four_17 : decode cX12_four 17 = .ok (.aload_n 0, 1) := by decide +kernel
theorem dX12_four_18 : decode cX12_four 18 = .ok (.getfield 29, 3) := by decide +kernel
theorem dX12_four_21 : decode cX12_four 21 = .ok (.aload_n 0, 1) := by decide +kernel
theorem dX12_four_22 : decode cX12_four 22 = .ok (.getfield 155, 3) := by decide +kernel
theorem dX12_four_25 : decode cX12_four 25 = .ok (.iload_n 1, 1) := by decide +kernel
theorem dX12_four_26 : decode cX12_four 26 = .ok (.iload_n 2, 1) := by decide +kernel
theorem dX12_four_27 : decode cX12_four 27 = .ok (.ishr, 1) := by decide +kernel
theorem dX12_four_28 : decode cX12_four 28 = .ok (.sipush 255, 3) := by decide +kernel
theorem dX12_four_31 : decode cX12_four 31 = .ok (.iand, 1) := by decide +kernel
theorem dX12_four_32 : decode cX12_four 32 = .ok (.iastore, 1) := by decide +kernel
theorem dX12_four_33 : decode cX12_four 33 = .ok (.aload_n 0, 1) := by decide +kernel
theorem dX12_four_34 : decode cX12_four 34 = .ok (.dup, 1) := by decide +kernel
theorem dX12_four_35 : decode cX12_four 35 = .ok (.getfield 155, 3) := by decide +kernel
theorem dX12_four_38 : decode cX12_four 38 = .ok (.iconst 1, 1) := by decide +kernel
theorem dX12_four_39 : decode cX12_four 39 = .ok (.iadd, 1) := by decide +kernel
theorem dX12_four_40 : decode cX12_four 40 = .ok (.putfield 155, 3) := by decide +kernel
theorem dX12_four_43 : decode cX12_four 43 = .ok (.iinc 2 (-8), 3) := by decide +kernel
theorem dX12_four_46 : decode cX12_four 46 = .ok (.goto (-43), 3) := by decide +kernel
theorem dX12_four_49 : decode cX12_four 49 = .ok (.return_, 1) := by decide +kernel
theorem dX12_append_0 : decode cX12_append 0 = .ok (.aload_n 0, 1) := by decide +kernel
theorem dX12_append_1 : decode cX12_append 1 = .ok (.iconst 0, 1) := by decide +kernel
theorem dX12_append_2 : decode cX12_append 2 = .ok (.putfield 63, 3) := by decide +kernel
theorem dX12_append_5 : decode cX12_append 5 = .ok (.aload_n 0, 1) := by decide +kernel
theorem dX12_append_6 : decode cX12_append 6 = .ok (.aload_n 0, 1) := by decide +kernel
theorem dX12_append_7 : decode cX12_append 7 = .ok (.getfield 155, 3) := by decide +kernel
theorem dX12_append_10 : decode cX12_append 10 = .ok (.aload_n 0, 1) := by decide +kernel
theorem dX12_append_11 : decode cX12_append 11 = .ok (.iload_n 1, 1) := by decide +kernel
theorem dX12_append_12 : decode cX12_append 12 = .ok (.invokevirtual 158, 3) := by decide +kernel
theorem dX12_append_15 : decode cX12_append 15 = .ok (.iadd, 1) := by decide +kernel
theorem dX12_append_16 : decode cX12_append 16 = .ok (.aload_n 0, 1) := by decide +kernel
theorem dX12_append_17 : decode cX12_append 17 = .ok (.iload_n 2, 1) := by decide +kernel
theorem dX12_append_18 : decode cX12_append 18 = .ok (.invokevirtual 158, 3) := by decide +kernel
theorem dX12_append_21 : decode cX12_append 21 = .ok (.iadd, 1) := by decide +kernel
theorem dX12_append_22 : decode cX12_append 22 = .ok (.aload_n 0, 1) := by decide +kernel
theorem dX12_append_23 : decode cX12_append 23 = .ok (.iload_n 3, 1) := by decide +kernel
theorem dX12_append_24 : decode cX12_append 24 = .ok (.invokevirtual 158, 3) := by decide +kernel
theorem dX12_append_27 : decode cX12_append 27 = .ok (.iadd, 1) := by decide +kernel
theorem dX12_append_28 : decode cX12_append 28 = .ok (.aload_n 0, 1) := by decide +kernel
theorem dX12_append_29 : decode cX12_append 29 = .ok (.iload 4, 2) := by decide +kernel
theorem dX12_append_31 : decode cX12_append 31 = .ok (.invokevirtual 158, 3) := by decide +kernel
theorem dX12_append_34 : decode cX12_append 34 = .ok (.iadd, 1) := by decide +kernel
theorem dX12_append_35 : decode cX12_append 35 = .ok (.aload_n 0, 1) := by decide +kernel
theorem dX12_append_36 : decode cX12_append 36 = .ok (.iload 5, 2) := by decide +kernel
theorem dX12_append_38 : decode cX12_append 38 = .ok (.invokevirtual 158, 3) := by decide +kernel
theorem dX12_append_41 : decode cX12_append 41 = .ok (.iadd, 1) := by decide +kernel
theorem dX12_append_42 : decode cX12_append 42 = .ok (.sipush 800, 3) := by decide +kernel
theorem dX12_append_45 : decode cX12_append 45 = .ok (.if_icmp .le 7, 3) := by decide +kernel
theorem dX12_append_48 : decode cX12_append 48 = .ok (.iconst 1, 1) := by decide +kernel
theorem dX12_append_49 : decode cX12_append 49 = .ok (.goto 4, 3) := by decide +kernel
theorem dX12_append_52 : decode cX12_append 52 = .ok (.iconst 0, 1) := by decide +kernel
theorem dX12_append_53 : decode cX12_append 53 = .ok (.iconst 1, 1) := by decide +kernel
theorem dX12_append_54 : decode cX12_append 54 = .ok (.invokevirtual 161, 3) := by decide +kernel
theorem dX12_append_57 : decode cX12_append 57 = .ok (.ifCond .eq 5, 3) := by decide +kernel
theorem dX12_append_60 : decode cX12_append 60 = .ok (.iconst 0, 1) := by decide +kernel
theorem dX12_append_61 : decode cX12_append 61 = .ok (.ireturn, 1) := by decide +kernel
theorem dX12_append_62 : decode cX12_append 62 = .ok (.aload_n 0, 1) := by decide +kernel
theorem dX12_append_63 : decode cX12_append 63 = .ok (.iload_n 1, 1) := by decide +kernel
theorem dX12_append_64 : decode cX12_append 64 = .ok (.invokevirtual 165, 3) := by decide +kernel
theorem dX12_append_67 : decode cX12_append 67 = .ok (.aload_n 0, 1) := by decide +kernel
theorem dX12_append_68 : decode cX12_append 68 = .ok (.iload_n 2, 1) := by decide +kernel
theorem dX12_append_69 : decode cX12_append 69 = .ok (.invokevirtual 165, 3) := by decide +kernel
theorem dX12_append_72 : decode cX12_append 72 = .ok (.aload_n 0, 1) := by decide +kernel
theorem dX12_append_73 : decode cX12_append 73 = .ok (.iload_n 3, 1) := by decide +kernel
theorem dX12_append_74 : decode cX12_append 74 = .ok (.invokevirtual 165, 3) := by decide +kernel
theorem dX12_append_77 : decode cX12_append 77 = .ok (.aload_n 0, 1) := by decide +kernel
theorem dX12_append_78 : decode cX12_append 78 = .ok (.iload 4, 2) := by decide +kernel
theorem dX12_append_80 : decode cX12_append 80 = .ok (.invokevirtual 165, 3) := by decide +kernel
theorem dX12_append_83 : decode cX12_append 83 = .ok (.aload_n 0, 1) := by decide +kernel
theorem dX12_append_84 : decode cX12_append 84 = .ok (.iload 5, 2) := by decide +kernel
theorem dX12_append_86 : decode cX12_append 86 = .ok (.invokevirtual 165, 3) := by decide +kernel
theorem dX12_append_89 : decode cX12_append 89 = .ok (.aload_n 0, 1) := by decide +kernel
theorem dX12_append_90 : decode cX12_append 90 = .ok (.getfield 155, 3) := by decide +kernel
theorem dX12_append_93 : decode cX12_append 93 = .ok (.ireturn, 1) := by decide +kernel
theorem dX12_truncate_0 : decode cX12_truncate 0 = .ok (.aload_n 0, 1) := by decide +kernel
theorem dX12_truncate_1 : decode cX12_truncate 1 = .ok (.iconst 0, 1) := by decide +kernel
theorem dX12_truncate_2 : decode cX12_truncate 2 = .ok (.putfield 63, 3) := by decide +kernel
theorem dX12_truncate_5 : decode cX12_truncate 5 = .ok (.aload_n 0, 1) := by decide +kernel
theorem dX12_truncate_6 : decode cX12_truncate 6 = .ok (.iload_n 1, 1) := by decide +kernel
theorem dX12_truncate_7 : decode cX12_truncate 7 = .ok (.i2l, 1) := by decide +kernel
theorem dX12_truncate_8 : decode cX12_truncate 8 = .ok (.lconst 0, 1) := by decide +kernel
theorem dX12_truncate_9 : decode cX12_truncate 9 = .ok (.aload_n 0, 1) := by decide +kernel
theorem dX12_truncate_10 : decode cX12_truncate 10 = .ok (.getfield 155, 3) := by decide +kernel
theorem dX12_truncate_13 : decode cX12_truncate 13 = .ok (.i2l, 1) := by decide +kernel
theorem dX12_truncate_14 : decode cX12_truncate 14 = .ok (.invokestatic 86, 3) := by decide +kernel
theorem dX12_truncate_17 : decode cX12_truncate 17 = .ok (.ifCond .ne 7, 3) := by decide +kernel
theorem dX12_truncate_20 : decode cX12_truncate 20 = .ok (.iconst 1, 1) := by decide +kernel
theorem dX12_truncate_21 : decode cX12_truncate 21 = .ok (.goto 4, 3) := by decide +kernel
theorem dX12_truncate_24 : decode cX12_truncate 24 = .ok (.iconst 0, 1) := by decide +kernel
theorem dX12_truncate_25 : decode cX12_truncate 25 = .ok (.iconst 1, 1) := by decide +kernel
theorem dX12_truncate_26 : decode cX12_truncate 26 = .ok (.invokevirtual 161, 3) := by decide +kernel
theorem dX12_truncate_29 : decode cX12_truncate 29 = .ok (.ifCond .eq 5, 3) := by decide +kernel
theorem dX12_truncate_32 : decode cX12_truncate 32 = .ok (.iconst 0, 1) := by decide +kernel
theorem dX12_truncate_33 : decode cX12_truncate 33 = .ok (.ireturn, 1) := by decide +kernel
theorem dX12_truncate_34 : decode cX12_truncate 34 = .ok (.aload_n 0, 1) := by decide +kernel
theorem dX12_truncate_35 : decode cX12_truncate 35 = .ok (.iload_n 1, 1) := by decide +kernel
theorem dX12_truncate_36 : decode cX12_truncate 36 = .ok (.putfield 155, 3) := by decide +kernel
theorem dX12_truncate_39 : decode cX12_truncate 39 = .ok (.iload_n 1, 1) := by decide +kernel
theorem dX12_truncate_40 : decode cX12_truncate 40 = .ok (.ireturn, 1) := by decide +kernel
theorem dX12_see_0 : decode cX12_see 0 = .ok (.iload_n 1, 1) := by decide +kernel
theorem dX12_see_1 : decode cX12_see 1 = .ok (.aload_n 0, 1) := by decide +kernel
theorem dX12_see_2 : decode cX12_see 2 = .ok (.getfield 168, 3) := by decide +kernel
theorem dX12_see_5 : decode cX12_see 5 = .ok (.if_icmp .ge 12, 3) := by decide +kernel
theorem dX12_see_8 : decode cX12_see 8 = .ok (.aload_n 0, 1) := by decide +kernel
theorem dX12_see_9 : decode cX12_see 9 = .ok (.getfield 32, 3) := by decide +kernel
theorem dX12_see_12 : decode cX12_see 12 = .ok (.iload_n 1, 1) := by decide +kernel
theorem dX12_see_13 : decode cX12_see 13 = .ok (.iaload, 1) := by decide +kernel
theorem dX12_see_14 : decode cX12_see 14 = .ok (.goto 4, 3) := by decide +kernel
theorem dX12_see_17 : decode cX12_see 17 = .ok (.iconst (-1), 1) := by decide +kernel
theorem dX12_see_18 : decode cX12_see 18 = .ok (.ireturn, 1) := by decide +kernel
theorem dX12_isSmall_0 : decode cX12_isSmall 0 = .ok (.iload_n 0, 1) := by decide +kernel
theorem dX12_isSmall_1 : decode cX12_isSmall 1 = .ok (.i2l, 1) := by decide +kernel
theorem dX12_isSmall_2 : decode cX12_isSmall 2 = .ok (.ldc2_w 171, 3) := by decide +kernel
theorem dX12_isSmall_5 : decode cX12_isSmall 5 = .ok (.ldc2_w 173, 3) := by decide +kernel
theorem dX12_isSmall_8 : decode cX12_isSmall 8 = .ok (.invokestatic 86, 3) := by decide +kernel
theorem dX12_isSmall_11 : decode cX12_isSmall 11 = .ok (.ireturn, 1) := by decide +kernel
theorem dX12_isDigit_0 : decode cX12_isDigit 0 = .ok (.iload_n 0, 1) := by decide +kernel
theorem dX12_isDigit_1 : decode cX12_isDigit 1 = .ok (.i2l, 1) := by decide +kernel
theorem dX12_isDigit_2 : decode cX12_isDigit 2 = .ok (.ldc2_w 175, 3) := by decide +kernel
theorem dX12_isDigit_5 : decode cX12_isDigit 5 = .ok (.ldc2_w 177, 3) := by decide +kernel
theorem dX12_isDigit_8 : decode cX12_isDigit 8 = .ok (.invokestatic 86, 3) := by decide +kernel
theorem dX12_isDigit_11 : decode cX12_isDigit 11 = .ok (.ireturn, 1) := by decide +kernel
theorem dX12_scan_0 : decode cX12_scan 0 = .ok (.aload_n 0, 1) := by decide +kernel
theorem dX12_scan_1 : decode cX12_scan 1 = .ok (.aload_n 0, 1) := by decide +kernel
theorem dX12_scan_2 : decode cX12_scan 2 = .ok (.getfield 179, 3) := by decide +kernel
theorem dX12_scan_5 : decode cX12_scan 5 = .ok (.invokevirtual 182, 3) := by decide +kernel
theorem dX12_scan_8 : decode cX12_scan 8 = .ok (.bipush 32, 2) := by decide +kernel
theorem dX12_scan_10 : decode cX12_scan 10 = .ok (.if_icmp .eq 16, 3) := by decide +kernel
theorem dX12_scan_13 : decode cX12_scan 13 = .ok (.aload_n 0, 1) := by decide +kernel
theorem dX12_scan_14 : decode cX12_scan 14 = .ok (.aload_n 0, 1) := by decide +kernel
theorem dX12_scan_15 : decode cX12_scan 15 = .ok (.getfield 179, 3) := by decide +kernel
theorem dX12_scan_18 : decode cX12_scan 18 = .ok (.invokevirtual 182, 3) := by decide +kernel
theorem dX12_scan_21 : decode cX12_scan 21 = .ok (.bipush 10, 2) := by decide +kernel
theorem dX12_scan_23 : decode cX12_scan 23 = .ok (.if_icmp .ne 16, 3) := by decide +kernel
theorem dX12_scan_26 : decode cX12_scan 26 = .ok (.aload_n 0, 1) := by decide +kernel
theorem dX12_scan_27 : decode cX12_scan 27 = .ok (.dup, 1) := by decide +kernel
theorem dX12_scan_28 : decode cX12_scan 28 = .ok (.getfield 179, 3) := by decide +kernel
theorem dX12_scan_31 : decode cX12_scan 31 = .ok (.iconst 1, 1) := by decide +kernel
theorem dX12_scan_32 : decode cX12_scan 32 = .ok (.iadd, 1) := by decide +kernel
theorem dX12_scan_33 : decode cX12_scan 33 = .ok (.putfield 179, 3) := by decide +kernel
theorem dX12_scan_36 : decode cX12_scan 36 = .ok (.goto (-36), 3) := by decide +kernel
theorem dX12_scan_39 : decode cX12_scan 39 = .ok (.aload_n 0, 1) := by decide +kernel
theorem dX12_scan_40 : decode cX12_scan 40 = .ok (.aload_n 0, 1) := by decide +kernel
theorem dX12_scan_41 : decode cX12_scan 41 = .ok (.getfield 179, 3) := by decide +kernel
theorem dX12_scan_44 : decode cX12_scan 44 = .ok (.putfield 185, 3) := by decide +kernel
theorem dX12_scan_47 : decode cX12_scan 47 = .ok (.aload_n 0, 1) := by decide +kernel
theorem dX12_scan_48 : decode cX12_scan 48 = .ok (.aload_n 0, 1) := by decide +kernel
theorem dX12_scan_49 : decode cX12_scan 49 = .ok (.getfield 179, 3) := by decide +kernel
theorem dX12_scan_52 : decode cX12_scan 52 = .ok (.invokevirtual 182, 3) := by decide +kernel
theorem dX12_scan_55 : decode cX12_scan 55 = .ok (.istore_n 1, 1) := by decide +kernel
theorem dX12_scan_56 : decode cX12_scan 56 = .ok (.iload_n 1, 1) := by decide +kernel
theorem dX12_scan_57 : decode cX12_scan 57 = .ok (.iconst (-1), 1) := by decide +kernel
theorem dX12_scan_58 : decode cX12_scan 58 = .ok (.if_icmp .ne 11, 3) := by decide +kernel
theorem dX12_scan_61 : decode cX12_scan 61 = .ok (.aload_n 0, 1) := by decide +kernel
theorem dX12_scan_62 : decode cX12_scan 62 = .ok (.iconst 0, 1) := by decide +kernel
theorem dX12_scan_63 : decode cX12_scan 63 = .ok (.putfield 188, 3) := by decide +kernel
theorem dX12_scan_66 : decode cX12_scan 66 = .ok (.goto 220, 3) := by decide +kernel
theorem dX12_scan_69 : decode cX12_scan 69 = .ok (.iload_n 1, 1) := by decide +kernel
theorem dX12_scan_70 : decode cX12_scan 70 = .ok (.invokestatic 191, 3) := by decide +kernel
theorem dX12_scan_73 : decode cX12_scan 73 = .ok (.ifCond .eq 90, 3) := by decide +kernel
theorem dX12_scan_76 : decode cX12_scan 76 = .ok (.aload_n 0, 1) := by decide +kernel
theorem dX12_scan_77 : decode cX12_scan 77 = .ok (.lconst 0, 1) := by decide +kernel
theorem dX12_scan_78 : decode cX12_scan 78 = .ok (.putfield 194, 3) := by decide +kernel
theorem dX12_scan_81 : decode cX12_scan 81 = .ok (.aload_n 0, 1) := by decide +kernel
theorem dX12_scan_82 : decode cX12_scan 82 = .ok (.aload_n 0, 1) := by decide +kernel
theorem dX12_scan_83 : decode cX12_scan 83 = .ok (.getfield 179, 3) := by decide +kernel
theorem dX12_scan_86 : decode cX12_scan 86 = .ok (.invokevirtual 182, 3) := by decide +kernel
theorem dX12_scan_89 : decode cX12_scan 89 = .ok (.invokestatic 191, 3) := by decide +kernel
theorem dX12_scan_92 : decode cX12_scan 92 = .ok (.ifCond .eq 63, 3) := by decide +kernel
theorem dX12_scan_95 : decode cX12_scan 95 = .ok (.aload_n 0, 1) := by decide +kernel
theorem dX12_scan_96 : decode cX12_scan 96 = .ok (.aload_n 0, 1) := by decide +kernel
theorem dX12_scan_97 : decode cX12_scan 97 = .ok (.getfield 179, 3) := by decide +kernel
theorem dX12_scan_100 : decode cX12_scan 100 = .ok (.aload_n 0, 1) := by decide +kernel
theorem dX12_scan_101 : decode cX12_scan 101 = .ok (.getfield 185, 3) := by decide +kernel
theorem dX12_scan_104 : decode cX12_scan 104 = .ok (.isub, 1) := by decide +kernel
theorem dX12_scan_105 : decode cX12_scan 105 = .ok (.bipush 12, 2) := by decide +kernel
theorem dX12_scan_107 : decode cX12_scan 107 = .ok (.if_icmp .ge 28, 3) := by decide +kernel
theorem dX12_scan_110 : decode cX12_scan 110 = .ok (.ldc2_w 198, 3) := by decide +kernel
theorem dX12_scan_113 : decode cX12_scan 113 = .ok (.aload_n 0, 1) := by decide +kernel
theorem dX12_scan_114 : decode cX12_scan 114 = .ok (.getfield 194, 3) := by decide +kernel
theorem dX12_scan_117 : decode cX12_scan 117 = .ok (.lmul, 1) := by decide +kernel
theorem dX12_scan_118 : decode cX12_scan 118 = .ok (.aload_n 0, 1) := by decide +kernel
theorem dX12_scan_119 : decode cX12_scan 119 = .ok (.aload_n 0, 1) := by decide +kernel
theorem dX12_scan_120 : decode cX12_scan 120 = .ok (.getfield 179, 3) := by decide +kernel
theorem dX12_scan_123 : decode cX12_scan 123 = .ok (.invokevirtual 182, 3) := by decide +kernel
theorem dX12_scan_126 : decode cX12_scan 126 = .ok (.i2l, 1) := by decide +kernel
theorem dX12_scan_127 : decode cX12_scan 127 = .ok (.ladd, 1) := by decide +kernel
theorem dX12_scan_128 : decode cX12_scan 128 = .ok (.ldc2_w 200, 3) := by decide +kernel
theorem dX12_scan_131 : decode cX12_scan 131 = .ok (.lsub, 1) := by decide +kernel
theorem dX12_scan_132 : decode cX12_scan 132 = .ok (.goto 7, 3) := by decide +kernel
theorem dX12_scan_135 : decode cX12_scan 135 = .ok (.aload_n 0, 1) := by decide +kernel
theorem dX12_scan_136 : decode cX12_scan 136 = .ok (.getfield 194, 3) := by decide +kernel
theorem dX12_scan_139 : decode cX12_scan 139 = .ok (.putfield 194, 3) := by decide +kernel
theorem dX12_scan_142 : decode cX12_scan 142 = .ok (.aload_n 0, 1) := by decide +kernel
theorem dX12_scan_143 : decode cX12_scan 143 = .ok (.dup, 1) := by decide +kernel
theorem dX12_scan_144 : decode cX12_scan 144 = .ok (.getfield 179, 3) := by decide +kernel
theorem dX12_scan_147 : decode cX12_scan 147 = .ok (.iconst 1, 1) := by decide +kernel
theorem dX12_scan_148 : decode cX12_scan 148 = .ok (.iadd, 1) := by decide +kernel
theorem dX12_scan_149 : decode cX12_scan 149 = .ok (.putfield 179, 3) := by decide +kernel
theorem dX12_scan_152 : decode cX12_scan 152 = .ok (.goto (-71), 3) := by decide +kernel
theorem dX12_scan_155 : decode cX12_scan 155 = .ok (.aload_n 0, 1) := by decide +kernel
theorem dX12_scan_156 : decode cX12_scan 156 = .ok (.iconst 1, 1) := by decide +kernel
theorem dX12_scan_157 : decode cX12_scan 157 = .ok (.putfield 188, 3) := by decide +kernel
theorem dX12_scan_160 : decode cX12_scan 160 = .ok (.goto 126, 3) := by decide +kernel
theorem dX12_scan_163 : decode cX12_scan 163 = .ok (.iload_n 1, 1) := by decide +kernel
theorem dX12_scan_164 : decode cX12_scan 164 = .ok (.invokestatic 202, 3) := by decide +kernel
theorem dX12_scan_167 : decode cX12_scan 167 = .ok (.ifCond .eq 82, 3) := by decide +kernel
theorem dX12_scan_170 : decode cX12_scan 170 = .ok (.aload_n 0, 1) := by decide +kernel
theorem dX12_scan_171 : decode cX12_scan 171 = .ok (.iconst 0, 1) := by decide +kernel
theorem dX12_scan_172 : decode cX12_scan 172 = .ok (.putfield 205, 3) := by decide +kernel
theorem dX12_scan_175 : decode cX12_scan 175 = .ok (.aload_n 0, 1) := by decide +kernel
theorem dX12_scan_176 : decode cX12_scan 176 = .ok (.aload_n 0, 1) := by decide +kernel
theorem dX12_scan_177 : decode cX12_scan 177 = .ok (.getfield 179, 3) := by decide +kernel
theorem dX12_scan_180 : decode cX12_scan 180 = .ok (.invokevirtual 182, 3) := by decide +kernel
theorem dX12_scan_183 : decode cX12_scan 183 = .ok (.invokestatic 202, 3) := by decide +kernel
theorem dX12_scan_186 : decode cX12_scan 186 = .ok (.ifCond .eq 55, 3) := by decide +kernel
theorem dX12_scan_189 : decode cX12_scan 189 = .ok (.aload_n 0, 1) := by decide +kernel
theorem dX12_scan_190 : decode cX12_scan 190 = .ok (.aload_n 0, 1) := by decide +kernel
theorem dX12_scan_191 : decode cX12_scan 191 = .ok (.getfield 205, 3) := by decide +kernel
theorem dX12_scan_194 : decode cX12_scan 194 = .ok (.ldc 208, 2) := by decide +kernel
theorem dX12_scan_196 : decode cX12_scan 196 = .ok (.if_icmp .le 10, 3) := by decide +kernel
theorem dX12_scan_199 : decode cX12_scan 199 = .ok (.aload_n 0, 1) := by decide +kernel
theorem dX12_scan_200 : decode cX12_scan 200 = .ok (.getfield 205, 3) := by decide +kernel
theorem dX12_scan_203 : decode cX12_scan 203 = .ok (.goto 22, 3) := by decide +kernel
theorem dX12_scan_206 : decode cX12_scan 206 = .ok (.bipush 10, 2) := by decide +kernel
theorem dX12_scan_208 : decode cX12_scan 208 = .ok (.aload_n 0, 1) := by decide +kernel
theorem dX12_scan_209 : decode cX12_scan 209 = .ok (.getfield 205, 3) := by decide +kernel
theorem dX12_scan_212 : decode cX12_scan 212 = .ok (.imul, 1) := by decide +kernel
theorem dX12_scan_213 : decode cX12_scan 213 = .ok (.aload_n 0, 1) := by decide +kernel
theorem dX12_scan_214 : decode cX12_scan 214 = .ok (.aload_n 0, 1) := by decide +kernel
theorem dX12_scan_215 : decode cX12_scan 215 = .ok (.getfield 179, 3) := by decide +kernel
theorem dX12_scan_218 : decode cX12_scan 218 = .ok (.invokevirtual 182, 3) := by decide +kernel
theorem dX12_scan_221 : decode cX12_scan 221 = .ok (.iadd, 1) := by decide +kernel
theorem dX12_scan_222 : decode cX12_scan 222 = .ok (.bipush 48, 2) := by decide +kernel
theorem dX12_scan_224 : decode cX12_scan 224 = .ok (.isub, 1) := by decide +kernel
theorem dX12_scan_225 : decode cX12_scan 225 = .ok (.putfield 205, 3) := by decide +kernel
theorem dX12_scan_228 : decode cX12_scan 228 = .ok (.aload_n 0, 1) := by decide +kernel
theorem dX12_scan_229 : decode cX12_scan 229 = .ok (.dup, 1) := by decide +kernel
theorem dX12_scan_230 : decode cX12_scan 230 = .ok (.getfield 179, 3) := by decide +kernel
theorem dX12_scan_233 : decode cX12_scan 233 = .ok (.iconst 1, 1) := by decide +kernel
theorem dX12_scan_234 : decode cX12_scan 234 = .ok (.iadd, 1) := by decide +kernel
theorem dX12_scan_235 : decode cX12_scan 235 = .ok (.putfield 179, 3) := by decide +kernel
theorem dX12_scan_238 : decode cX12_scan 238 = .ok (.goto (-63), 3) := by decide +kernel
theorem dX12_scan_241 : decode cX12_scan 241 = .ok (.aload_n 0, 1) := by decide +kernel
theorem dX12_scan_242 : decode cX12_scan 242 = .ok (.iconst 2, 1) := by decide +kernel
theorem dX12_scan_243 : decode cX12_scan 243 = .ok (.putfield 188, 3) := by decide +kernel
theorem dX12_scan_246 : decode cX12_scan 246 = .ok (.goto 40, 3) := by decide +kernel
theorem dX12_scan_249 : decode cX12_scan 249 = .ok (.aload_n 0, 1) := by decide +kernel
theorem dX12_scan_250 : decode cX12_scan 250 = .ok (.iload_n 1, 1) := by decide +kernel
theorem dX12_scan_251 : decode cX12_scan 251 = .ok (.bipush 59, 2) := by decide +kernel
theorem dX12_scan_253 : decode cX12_scan 253 = .ok (.if_icmp .eq 15, 3) := by decide +kernel
theorem dX12_scan_256 : decode cX12_scan 256 = .ok (.iload_n 1, 1) := by decide +kernel
theorem dX12_scan_257 : decode cX12_scan 257 = .ok (.bipush 40, 2) := by decide +kernel
theorem dX12_scan_259 : decode cX12_scan 259 = .ok (.if_icmp .eq 9, 3) := by decide +kernel
theorem dX12_scan_262 : decode cX12_scan 262 = .ok (.iload_n 1, 1) := by decide +kernel
theorem dX12_scan_263 : decode cX12_scan 263 = .ok (.bipush 41, 2) := by decide +kernel
theorem dX12_scan_265 : decode cX12_scan 265 = .ok (.if_icmp .ne 7, 3) := by decide +kernel
theorem dX12_scan_268 : decode cX12_scan 268 = .ok (.iconst 3, 1) := by decide +kernel
theorem dX12_scan_269 : decode cX12_scan 269 = .ok (.goto 4, 3) := by decide +kernel
theorem dX12_scan_272 : decode cX12_scan 272 = .ok (.iconst 4, 1) := by decide +kernel
theorem dX12_scan_273 : decode cX12_scan 273 = .ok (.putfield 188, 3) := by decide +kernel
theorem dX12_scan_276 : decode cX12_scan 276 = .ok (.aload_n 0, 1) := by decide +kernel
theorem dX12_scan_277 : decode cX12_scan 277 = .ok (.dup, 1) := by decide +kernel
theorem dX12_scan_278 : decode cX12_scan 278 = .ok (.getfield 179, 3) := by decide +kernel
theorem dX12_scan_281 : decode cX12_scan 281 = .ok (.iconst 1, 1) := by decide +kernel
theorem dX12_scan_282 : decode cX12_scan 282 = .ok (.iadd, 1) := by decide +kernel
theorem dX12_scan_283 : decode cX12_scan 283 = .ok (.putfield 179, 3) := by decide +kernel
theorem dX12_scan_286 : decode cX12_scan 286 = .ok (.return_, 1) := by decide +kernel
theorem dX12_isGood_0 : decode cX12_isGood 0 = .ok (.aload_n 0, 1) := by decide +kernel
theorem dX12_isGood_1 : decode cX12_isGood 1 = .ok (.getfield 209, 3) := by decide +kernel
theorem dX12_isGood_4 : decode cX12_isGood 4 = .ok (.ifCond .ne 7, 3) := by decide +kernel
theorem dX12_isGood_7 : decode cX12_isGood 7 = .ok (.iconst 1, 1) := by decide +kernel
theorem dX12_isGood_8 : decode cX12_isGood 8 = .ok (.goto 4, 3) := by decide +kernel
theorem dX12_isGood_11 : decode cX12_isGood 11 = .ok (.iconst 0, 1) := by decide +kernel
theorem dX12_isGood_12 : decode cX12_isGood 12 = .ok (.ireturn, 1) := by decide +kernel
theorem dX12_must_0 : decode cX12_must 0 = .ok (.aload_n 0, 1) := by decide +kernel
theorem dX12_must_1 : decode cX12_must 1 = .ok (.getfield 209, 3) := by decide +kernel
theorem dX12_must_4 : decode cX12_must 4 = .ok (.ifCond .ne 20, 3) := by decide +kernel
theorem dX12_must_7 : decode cX12_must 7 = .ok (.iload_n 1, 1) := by decide +kernel
theorem dX12_must_8 : decode cX12_must 8 = .ok (.ifCond .ne 16, 3) := by decide +kernel
theorem dX12_must_11 : decode cX12_must 11 = .ok (.aload_n 0, 1) := by decide +kernel
theorem dX12_must_12 : decode cX12_must 12 = .ok (.iload_n 2, 1) := by decide +kernel
theorem dX12_must_13 : decode cX12_must 13 = .ok (.putfield 209, 3) := by decide +kernel
theorem dX12_must_16 : decode cX12_must 16 = .ok (.aload_n 0, 1) := by decide +kernel
theorem dX12_must_17 : decode cX12_must 17 = .ok (.aload_n 0, 1) := by decide +kernel
theorem dX12_must_18 : decode cX12_must 18 = .ok (.getfield 185, 3) := by decide +kernel
theorem dX12_must_21 : decode cX12_must 21 = .ok (.putfield 212, 3) := by decide +kernel
theorem dX12_must_24 : decode cX12_must 24 = .ok (.return_, 1) := by decide +kernel
theorem dX12_goesOn_0 : decode cX12_goesOn 0 = .ok (.aload_n 0, 1) := by decide +kernel
theorem dX12_goesOn_1 : decode cX12_goesOn 1 = .ok (.getfield 209, 3) := by decide +kernel
theorem dX12_goesOn_4 : decode cX12_goesOn 4 = .ok (.ifCond .ne 7, 3) := by decide +kernel
theorem dX12_goesOn_7 : decode cX12_goesOn 7 = .ok (.aload_n 0, 1) := by decide +kernel
theorem dX12_goesOn_8 : decode cX12_goesOn 8 = .ok (.invokevirtual 215, 3) := by decide +kernel
theorem dX12_goesOn_11 : decode cX12_goesOn 11 = .ok (.return_, 1) := by decide +kernel
theorem dX12_starts_0 : decode cX12_starts 0 = .ok (.aload_n 0, 1) := by decide +kernel
theorem dX12_starts_1 : decode cX12_starts 1 = .ok (.iconst 0, 1) := by decide +kernel
theorem dX12_starts_2 : decode cX12_starts 2 = .ok (.putfield 179, 3) := by decide +kernel
theorem dX12_starts_5 : decode cX12_starts 5 = .ok (.aload_n 0, 1) := by decide +kernel
theorem dX12_starts_6 : decode cX12_starts 6 = .ok (.iconst 0, 1) := by decide +kernel
theorem dX12_starts_7 : decode cX12_starts 7 = .ok (.putfield 209, 3) := by decide +kernel
theorem dX12_starts_10 : decode cX12_starts 10 = .ok (.aload_n 0, 1) := by decide +kernel
theorem dX12_starts_11 : decode cX12_starts 11 = .ok (.invokevirtual 215, 3) := by decide +kernel
theorem dX12_starts_14 : decode cX12_starts 14 = .ok (.return_, 1) := by decide +kernel
theorem dX12_isWord_0 : decode cX12_isWord 0 = .ok (.aload_n 0, 1) := by decide +kernel
theorem dX12_isWord_1 : decode cX12_isWord 1 = .ok (.getfield 209, 3) := by decide +kernel
theorem dX12_isWord_4 : decode cX12_isWord 4 = .ok (.ifCond .ne 38, 3) := by decide +kernel
theorem dX12_isWord_7 : decode cX12_isWord 7 = .ok (.aload_n 0, 1) := by decide +kernel
theorem dX12_isWord_8 : decode cX12_isWord 8 = .ok (.getfield 188, 3) := by decide +kernel
theorem dX12_isWord_11 : decode cX12_isWord 11 = .ok (.iconst 1, 1) := by decide +kernel
theorem dX12_isWord_12 : decode cX12_isWord 12 = .ok (.if_icmp .ne 30, 3) := by decide +kernel
theorem dX12_isWord_15 : decode cX12_isWord 15 = .ok (.aload_n 0, 1) := by decide +kernel
theorem dX12_isWord_16 : decode cX12_isWord 16 = .ok (.getfield 179, 3) := by decide +kernel
theorem dX12_isWord_19 : decode cX12_isWord 19 = .ok (.aload_n 0, 1) := by decide +kernel
theorem dX12_isWord_20 : decode cX12_isWord 20 = .ok (.getfield 185, 3) := by decide +kernel
theorem dX12_isWord_23 : decode cX12_isWord 23 = .ok (.isub, 1) := by decide +kernel
theorem dX12_isWord_24 : decode cX12_isWord 24 = .ok (.bipush 12, 2) := by decide +kernel
theorem dX12_isWord_26 : decode cX12_isWord 26 = .ok (.if_icmp .ge 16, 3) := by decide +kernel
theorem dX12_isWord_29 : decode cX12_isWord 29 = .ok (.aload_n 0, 1) := by decide +kernel
theorem dX12_isWord_30 : decode cX12_isWord 30 = .ok (.getfield 194, 3) := by decide +kernel
theorem dX12_isWord_33 : decode cX12_isWord 33 = .ok (.lload_n 1, 1) := by decide +kernel
theorem dX12_isWord_34 : decode cX12_isWord 34 = .ok (.lcmp, 1) := by decide +kernel
theorem dX12_isWord_35 : decode cX12_isWord 35 = .ok (.ifCond .ne 7, 3) := by decide +kernel
theorem dX12_isWord_38 : decode cX12_isWord 38 = .ok (.iconst 1, 1) := by decide +kernel
theorem dX12_isWord_39 : decode cX12_isWord 39 = .ok (.goto 4, 3) := by decide +kernel
theorem dX12_isWord_42 : decode cX12_isWord 42 = .ok (.iconst 0, 1) := by decide +kernel
theorem dX12_isWord_43 : decode cX12_isWord 43 = .ok (.ireturn, 1) := by decide +kernel
theorem dX12_isSign_0 : decode cX12_isSign 0 = .ok (.aload_n 0, 1) := by decide +kernel
theorem dX12_isSign_1 : decode cX12_isSign 1 = .ok (.getfield 209, 3) := by decide +kernel
theorem dX12_isSign_4 : decode cX12_isSign 4 = .ok (.ifCond .ne 28, 3) := by decide +kernel
theorem dX12_isSign_7 : decode cX12_isSign 7 = .ok (.aload_n 0, 1) := by decide +kernel
theorem dX12_isSign_8 : decode cX12_isSign 8 = .ok (.getfield 188, 3) := by decide +kernel
theorem dX12_isSign_11 : decode cX12_isSign 11 = .ok (.iconst 3, 1) := by decide +kernel
theorem dX12_isSign_12 : decode cX12_isSign 12 = .ok (.if_icmp .ne 20, 3) := by decide +kernel
theorem dX12_isSign_15 : decode cX12_isSign 15 = .ok (.aload_n 0, 1) := by decide +kernel
theorem dX12_isSign_16 : decode cX12_isSign 16 = .ok (.getfield 32, 3) := by decide +kernel
theorem dX12_isSign_19 : decode cX12_isSign 19 = .ok (.aload_n 0, 1) := by decide +kernel
theorem dX12_isSign_20 : decode cX12_isSign 20 = .ok (.getfield 185, 3) := by decide +kernel
theorem dX12_isSign_23 : decode cX12_isSign 23 = .ok (.iaload, 1) := by decide +kernel
theorem dX12_isSign_24 : decode cX12_isSign 24 = .ok (.iload_n 1, 1) := by decide +kernel
theorem dX12_isSign_25 : decode cX12_isSign 25 = .ok (.if_icmp .ne 7, 3) := by decide +kernel
theorem dX12_isSign_28 : decode cX12_isSign 28 = .ok (.iconst 1, 1) := by decide +kernel
theorem dX12_isSign_29 : decode cX12_isSign 29 = .ok (.goto 4, 3) := by decide +kernel
theorem dX12_isSign_32 : decode cX12_isSign 32 = .ok (.iconst 0, 1) := by decide +kernel
theorem dX12_isSign_33 : decode cX12_isSign 33 = .ok (.ireturn, 1) := by decide +kernel
theorem dX12_sign_0 : decode cX12_sign 0 = .ok (.aload_n 0, 1) := by decide +kernel
theorem dX12_sign_1 : decode cX12_sign 1 = .ok (.aload_n 0, 1) := by decide +kernel
theorem dX12_sign_2 : decode cX12_sign 2 = .ok (.iload_n 1, 1) := by decide +kernel
theorem dX12_sign_3 : decode cX12_sign 3 = .ok (.invokevirtual 218, 3) := by decide +kernel
theorem dX12_sign_6 : decode cX12_sign 6 = .ok (.iconst 1, 1) := by decide +kernel
theorem dX12_sign_7 : decode cX12_sign 7 = .ok (.invokevirtual 221, 3) := by decide +kernel
theorem dX12_sign_10 : decode cX12_sign 10 = .ok (.aload_n 0, 1) := by decide +kernel
theorem dX12_sign_11 : decode cX12_sign 11 = .ok (.invokevirtual 225, 3) := by decide +kernel
theorem dX12_sign_14 : decode cX12_sign 14 = .ok (.return_, 1) := by decide +kernel
theorem dX12_reads_0 : decode cX12_reads 0 = .ok (.aload_n 0, 1) := by decide +kernel
theorem dX12_reads_1 : decode cX12_reads 1 = .ok (.aload_n 0, 1) := by decide +kernel
theorem dX12_reads_2 : decode cX12_reads 2 = .ok (.getfield 188, 3) := by decide +kernel
theorem dX12_reads_5 : decode cX12_reads 5 = .ok (.iconst 2, 1) := by decide +kernel
theorem dX12_reads_6 : decode cX12_reads 6 = .ok (.if_icmp .ne 7, 3) := by decide +kernel
theorem dX12_reads_9 : decode cX12_reads 9 = .ok (.iconst 1, 1) := by decide +kernel
theorem dX12_reads_10 : decode cX12_reads 10 = .ok (.goto 4, 3) := by decide +kernel
theorem dX12_reads_13 : decode cX12_reads 13 = .ok (.iconst 0, 1) := by decide +kernel
theorem dX12_reads_14 : decode cX12_reads 14 = .ok (.iconst 1, 1) := by decide +kernel
theorem dX12_reads_15 : decode cX12_reads 15 = .ok (.invokevirtual 221, 3) := by decide +kernel
theorem dX12_reads_18 : decode cX12_reads 18 = .ok (.aload_n 0, 1) := by decide +kernel
theorem dX12_reads_19 : decode cX12_reads 19 = .ok (.aload_n 0, 1) := by decide +kernel
theorem dX12_reads_20 : decode cX12_reads 20 = .ok (.getfield 205, 3) := by decide +kernel
theorem dX12_reads_23 : decode cX12_reads 23 = .ok (.i2l, 1) := by decide +kernel
theorem dX12_reads_24 : decode cX12_reads 24 = .ok (.iload_n 1, 1) := by decide +kernel
theorem dX12_reads_25 : decode cX12_reads 25 = .ok (.i2l, 1) := by decide +kernel
theorem dX12_reads_26 : decode cX12_reads 26 = .ok (.iload_n 2, 1) := by decide +kernel
theorem dX12_reads_27 : decode cX12_reads 27 = .ok (.i2l, 1) := by decide +kernel
theorem dX12_reads_28 : decode cX12_reads 28 = .ok (.invokestatic 86, 3) := by decide +kernel
theorem dX12_reads_31 : decode cX12_reads 31 = .ok (.iconst 2, 1) := by decide +kernel
theorem dX12_reads_32 : decode cX12_reads 32 = .ok (.invokevirtual 221, 3) := by decide +kernel
theorem dX12_reads_35 : decode cX12_reads 35 = .ok (.aload_n 0, 1) := by decide +kernel
theorem dX12_reads_36 : decode cX12_reads 36 = .ok (.getfield 205, 3) := by decide +kernel
theorem dX12_reads_39 : decode cX12_reads 39 = .ok (.istore_n 3, 1) := by decide +kernel
theorem dX12_reads_40 : decode cX12_reads 40 = .ok (.aload_n 0, 1) := by decide +kernel
theorem dX12_reads_41 : decode cX12_reads 41 = .ok (.invokevirtual 225, 3) := by decide +kernel
theorem dX12_reads_44 : decode cX12_reads 44 = .ok (.aload_n 0, 1) := by decide +kernel
theorem dX12_reads_45 : decode cX12_reads 45 = .ok (.getfield 209, 3) := by decide +kernel
theorem dX12_reads_48 : decode cX12_reads 48 = .ok (.ifCond .ne 7, 3) := by decide +kernel
theorem dX12_reads_51 : decode cX12_reads 51 = .ok (.iload_n 3, 1) := by decide +kernel
theorem dX12_reads_52 : decode cX12_reads 52 = .ok (.goto 4, 3) := by decide +kernel
theorem dX12_reads_55 : decode cX12_reads 55 = .ok (.iload_n 1, 1) := by decide +kernel
theorem dX12_reads_56 : decode cX12_reads 56 = .ok (.ireturn, 1) := by decide +kernel
theorem dX12_isNameHere_0 : decode cX12_isNameHere 0 = .ok (.aload_n 0, 1) := by decide +kernel
theorem dX12_isNameHere_1 : decode cX12_isNameHere 1 = .ok (.getfield 188, 3) := by decide +kernel
theorem dX12_isNameHere_4 : decode cX12_isNameHere 4 = .ok (.iconst 1, 1) := by decide +kernel
theorem dX12_isNameHere_5 : decode cX12_isNameHere 5 = .ok (.if_icmp .ne 21, 3) := by decide +kernel
theorem dX12_isNameHere_8 : decode cX12_isNameHere 8 = .ok (.aload_n 0, 1) := by decide +kernel
theorem dX12_isNameHere_9 : decode cX12_isNameHere 9 = .ok (.getfield 179, 3) := by decide +kernel
theorem dX12_isNameHere_12 : decode cX12_isNameHere 12 = .ok (.aload_n 0, 1) := by decide +kernel
theorem dX12_isNameHere_13 : decode cX12_isNameHere 13 = .ok (.getfield 185, 3) := by decide +kernel
theorem dX12_isNameHere_16 : decode cX12_isNameHere 16 = .ok (.isub, 1) := by decide +kernel
theorem dX12_isNameHere_17 : decode cX12_isNameHere 17 = .ok (.bipush 6, 2) := by decide +kernel
theorem dX12_isNameHere_19 : decode cX12_isNameHere 19 = .ok (.if_icmp .gt 7, 3) := by decide +kernel
theorem dX12_isNameHere_22 : decode cX12_isNameHere 22 = .ok (.iconst 1, 1) := by decide +kernel
theorem dX12_isNameHere_23 : decode cX12_isNameHere 23 = .ok (.goto 4, 3) := by decide +kernel
theorem dX12_isNameHere_26 : decode cX12_isNameHere 26 = .ok (.iconst 0, 1) := by decide +kernel
theorem dX12_isNameHere_27 : decode cX12_isNameHere 27 = .ok (.ireturn, 1) := by decide +kernel
theorem dX12_named_0 : decode cX12_named 0 = .ok (.aload_n 0, 1) := by decide +kernel
theorem dX12_named_1 : decode cX12_named 1 = .ok (.invokevirtual 228, 3) := by decide +kernel
theorem dX12_named_4 : decode cX12_named 4 = .ok (.ifCond .eq 15, 3) := by decide +kernel
theorem dX12_named_7 : decode cX12_named 7 = .ok (.aload_n 0, 1) := by decide +kernel
theorem dX12_named_8 : decode cX12_named 8 = .ok (.aload_n 0, 1) := by decide +kernel
theorem dX12_named_9 : decode cX12_named 9 = .ok (.getfield 194, 3) := by decide +kernel
theorem dX12_named_12 : decode cX12_named 12 = .ok (.l2i, 1) := by decide +kernel
theorem dX12_named_13 : decode cX12_named 13 = .ok (.invokevirtual 232, 3) := by decide +kernel
theorem dX12_named_16 : decode cX12_named 16 = .ok (.goto 4, 3) := by decide +kernel
theorem dX12_named_19 : decode cX12_named 19 = .ok (.iconst (-1), 1) := by decide +kernel
theorem dX12_named_20 : decode cX12_named 20 = .ok (.ireturn, 1) := by decide +kernel
theorem dX12_boardText_0 : decode cX12_boardText 0 = .ok (.aload_n 0, 1) := by decide +kernel
theorem dX12_boardText_1 : decode cX12_boardText 1 = .ok (.iconst 1, 1) := by decide +kernel
theorem dX12_boardText_2 : decode cX12_boardText 2 = .ok (.bipush 6, 2) := by decide +kernel
theorem dX12_boardText_4 : decode cX12_boardText 4 = .ok (.invokevirtual 235, 3) := by decide +kernel
theorem dX12_boardText_7 : decode cX12_boardText 7 = .ok (.istore_n 1, 1) := by decide +kernel
theorem dX12_boardText_8 : decode cX12_boardText 8 = .ok (.aload_n 0, 1) := by decide +kernel
theorem dX12_boardText_9 : decode cX12_boardText 9 = .ok (.iconst 1, 1) := by decide +kernel
theorem dX12_boardText_10 : decode cX12_boardText 10 = .ok (.bipush 99, 2) := by decide +kernel
theorem dX12_boardText_12 : decode cX12_boardText 12 = .ok (.invokevirtual 235, 3) := by decide +kernel
theorem dX12_boardText_15 : decode cX12_boardText 15 = .ok (.istore_n 2, 1) := by decide +kernel
theorem dX12_boardText_16 : decode cX12_boardText 16 = .ok (.aload_n 0, 1) := by decide +kernel
theorem dX12_boardText_17 : decode cX12_boardText 17 = .ok (.iconst 0, 1) := by decide +kernel
theorem dX12_boardText_18 : decode cX12_boardText 18 = .ok (.sipush 999, 3) := by decide +kernel
theorem dX12_boardText_21 : decode cX12_boardText 21 = .ok (.invokevirtual 235, 3) := by decide +kernel
theorem dX12_boardText_24 : decode cX12_boardText 24 = .ok (.istore_n 3, 1) := by decide +kernel
theorem dX12_boardText_25 : decode cX12_boardText 25 = .ok (.aload_n 0, 1) := by decide +kernel
theorem dX12_boardText_26 : decode cX12_boardText 26 = .ok (.invokevirtual 228, 3) := by decide +kernel
theorem dX12_boardText_29 : decode cX12_boardText 29 = .ok (.ifCond .eq 10, 3) := by decide +kernel
theorem dX12_boardText_32 : decode cX12_boardText 32 = .ok (.aload_n 0, 1) := by decide +kernel
theorem dX12_boardText_33 : decode cX12_boardText 33 = .ok (.iload_n 1, 1) := by decide +kernel
theorem dX12_boardText_34 : decode cX12_boardText 34 = .ok (.iload_n 2, 1) := by decide +kernel
theorem dX12_boardText_35 : decode cX12_boardText 35 = .ok (.iload_n 3, 1) := by decide +kernel
theorem dX12_boardText_36 : decode cX12_boardText 36 = .ok (.invokevirtual 48, 3) := by decide +kernel
theorem dX12_boardText_39 : decode cX12_boardText 39 = .ok (.return_, 1) := by decide +kernel
theorem dX12_traderText_0 : decode cX12_traderText 0 = .ok (.aload_n 0, 1) := by decide +kernel
theorem dX12_traderText_1 : decode cX12_traderText 1 = .ok (.aload_n 0, 1) := by decide +kernel
theorem dX12_traderText_2 : decode cX12_traderText 2 = .ok (.invokevirtual 238, 3) := by decide +kernel
theorem dX12_traderText_5 : decode cX12_traderText 5 = .ok (.iconst 1, 1) := by decide +kernel
theorem dX12_traderText_6 : decode cX12_traderText 6 = .ok (.invokevirtual 221, 3) := by decide +kernel
theorem dX12_traderText_9 : decode cX12_traderText 9 = .ok (.aload_n 0, 1) := by decide +kernel
theorem dX12_traderText_10 : decode cX12_traderText 10 = .ok (.aload_n 0, 1) := by decide +kernel
theorem dX12_traderText_11 : decode cX12_traderText 11 = .ok (.invokevirtual 241, 3) := by decide +kernel
theorem dX12_traderText_14 : decode cX12_traderText 14 = .ok (.iconst (-1), 1) := by decide +kernel
theorem dX12_traderText_15 : decode cX12_traderText 15 = .ok (.if_icmp .ne 7, 3) := by decide +kernel
theorem dX12_traderText_18 : decode cX12_traderText 18 = .ok (.iconst 1, 1) := by decide +kernel
theorem dX12_traderText_19 : decode cX12_traderText 19 = .ok (.goto 4, 3) := by decide +kernel
theorem dX12_traderText_22 : decode cX12_traderText 22 = .ok (.iconst 0, 1) := by decide +kernel
theorem dX12_traderText_23 : decode cX12_traderText 23 = .ok (.iconst 3, 1) := by decide +kernel
theorem dX12_traderText_24 : decode cX12_traderText 24 = .ok (.invokevirtual 221, 3) := by decide +kernel
theorem dX12_traderText_27 : decode cX12_traderText 27 = .ok (.aload_n 0, 1) := by decide +kernel
theorem dX12_traderText_28 : decode cX12_traderText 28 = .ok (.getfield 194, 3) := by decide +kernel
theorem dX12_traderText_31 : decode cX12_traderText 31 = .ok (.l2i, 1) := by decide +kernel
theorem dX12_traderText_32 : decode cX12_traderText 32 = .ok (.istore_n 1, 1) := by decide +kernel
theorem dX12_traderText_33 : decode cX12_traderText 33 = .ok (.aload_n 0, 1) := by decide +kernel
theorem dX12_traderText_34 : decode cX12_traderText 34 = .ok (.invokevirtual 225, 3) := by decide +kernel
theorem dX12_traderText_37 : decode cX12_traderText 37 = .ok (.aload_n 0, 1) := by decide +kernel
theorem dX12_traderText_38 : decode cX12_traderText 38 = .ok (.iconst 1, 1) := by decide +kernel
theorem dX12_traderText_39 : decode cX12_traderText 39 = .ok (.bipush 99, 2) := by decide +kernel
theorem dX12_traderText_41 : decode cX12_traderText 41 = .ok (.invokevirtual 235, 3) := by decide +kernel
theorem dX12_traderText_44 : decode cX12_traderText 44 = .ok (.istore_n 2, 1) := by decide +kernel
theorem dX12_traderText_45 : decode cX12_traderText 45 = .ok (.aload_n 0, 1) := by decide +kernel
theorem dX12_traderText_46 : decode cX12_traderText 46 = .ok (.iconst 0, 1) := by decide +kernel
theorem dX12_traderText_47 : decode cX12_traderText 47 = .ok (.sipush 9999, 3) := by decide +kernel
theorem dX12_traderText_50 : decode cX12_traderText 50 = .ok (.invokevirtual 235, 3) := by decide +kernel
theorem dX12_traderText_53 : decode cX12_traderText 53 = .ok (.istore_n 3, 1) := by decide +kernel
theorem dX12_traderText_54 : decode cX12_traderText 54 = .ok (.aload_n 0, 1) := by decide +kernel
theorem dX12_traderText_55 : decode cX12_traderText 55 = .ok (.iconst 0, 1) := by decide +kernel
theorem dX12_traderText_56 : decode cX12_traderText 56 = .ok (.sipush 999, 3) := by decide +kernel
theorem dX12_traderText_59 : decode cX12_traderText 59 = .ok (.aload_n 0, 1) := by decide +kernel
theorem dX12_traderText_60 : decode cX12_traderText 60 = .ok (.getfield 7, 3) := by decide +kernel
theorem dX12_traderText_63 : decode cX12_traderText 63 = .ok (.iconst 3, 1) := by decide +kernel
theorem dX12_traderText_64 : decode cX12_traderText 64 = .ok (.iaload, 1) := by decide +kernel
theorem dX12_traderText_65 : decode cX12_traderText 65 = .ok (.invokestatic 93, 3) := by decide +kernel
theorem dX12_traderText_68 : decode cX12_traderText 68 = .ok (.invokevirtual 235, 3) := by decide +kernel
theorem dX12_traderText_71 : decode cX12_traderText 71 = .ok (.istore 4, 2) := by decide +kernel
theorem dX12_traderText_73 : decode cX12_traderText 73 = .ok (.aload_n 0, 1) := by decide +kernel
theorem dX12_traderText_74 : decode cX12_traderText 74 = .ok (.invokevirtual 228, 3) := by decide +kernel
theorem dX12_traderText_77 : decode cX12_traderText 77 = .ok (.ifCond .eq 12, 3) := by decide +kernel
theorem dX12_traderText_80 : decode cX12_traderText 80 = .ok (.aload_n 0, 1) := by decide +kernel
theorem dX12_traderText_81 : decode cX12_traderText 81 = .ok (.iload_n 1, 1) := by decide +kernel
theorem dX12_traderText_82 : decode cX12_traderText 82 = .ok (.iload_n 2, 1) := by decide +kernel
theorem dX12_traderText_83 : decode cX12_traderText 83 = .ok (.iload_n 3, 1) := by decide +kernel
theorem dX12_traderText_84 : decode cX12_traderText 84 = .ok (.iload 4, 2) := by decide +kernel
theorem dX12_traderText_86 : decode cX12_traderText 86 = .ok (.invokevirtual 52, 3) := by decide +kernel
theorem dX12_traderText_89 : decode cX12_traderText 89 = .ok (.return_, 1) := by decide +kernel
theorem dX12_sideText_0 : decode cX12_sideText 0 = .ok (.aload_n 0, 1) := by decide +kernel
theorem dX12_sideText_1 : decode cX12_sideText 1 = .ok (.ldc2_w 244, 3) := by decide +kernel
theorem dX12_sideText_4 : decode cX12_sideText 4 = .ok (.invokevirtual 246, 3) := by decide +kernel
theorem dX12_sideText_7 : decode cX12_sideText 7 = .ok (.ifCond .eq 7, 3) := by decide +kernel
theorem dX12_sideText_10 : decode cX12_sideText 10 = .ok (.iconst (-1), 1) := by decide +kernel
theorem dX12_sideText_11 : decode cX12_sideText 11 = .ok (.goto 18, 3) := by decide +kernel
theorem dX12_sideText_14 : decode cX12_sideText 14 = .ok (.aload_n 0, 1) := by decide +kernel
theorem dX12_sideText_15 : decode cX12_sideText 15 = .ok (.ldc2_w 250, 3) := by decide +kernel
theorem dX12_sideText_18 : decode cX12_sideText 18 = .ok (.invokevirtual 246, 3) := by decide +kernel
theorem dX12_sideText_21 : decode cX12_sideText 21 = .ok (.ifCond .eq 7, 3) := by decide +kernel
theorem dX12_sideText_24 : decode cX12_sideText 24 = .ok (.iconst 1, 1) := by decide +kernel
theorem dX12_sideText_25 : decode cX12_sideText 25 = .ok (.goto 4, 3) := by decide +kernel
theorem dX12_sideText_28 : decode cX12_sideText 28 = .ok (.iconst 0, 1) := by decide +kernel
theorem dX12_sideText_29 : decode cX12_sideText 29 = .ok (.istore_n 1, 1) := by decide +kernel
theorem dX12_sideText_30 : decode cX12_sideText 30 = .ok (.aload_n 0, 1) := by decide +kernel
theorem dX12_sideText_31 : decode cX12_sideText 31 = .ok (.iload_n 1, 1) := by decide +kernel
theorem dX12_sideText_32 : decode cX12_sideText 32 = .ok (.ifCond .eq 7, 3) := by decide +kernel
theorem dX12_sideText_35 : decode cX12_sideText 35 = .ok (.iconst 1, 1) := by decide +kernel
theorem dX12_sideText_36 : decode cX12_sideText 36 = .ok (.goto 4, 3) := by decide +kernel
theorem dX12_sideText_39 : decode cX12_sideText 39 = .ok (.iconst 0, 1) := by decide +kernel
theorem dX12_sideText_40 : decode cX12_sideText 40 = .ok (.iconst 1, 1) := by decide +kernel
theorem dX12_sideText_41 : decode cX12_sideText 41 = .ok (.invokevirtual 221, 3) := by decide +kernel
theorem dX12_sideText_44 : decode cX12_sideText 44 = .ok (.aload_n 0, 1) := by decide +kernel
theorem dX12_sideText_45 : decode cX12_sideText 45 = .ok (.invokevirtual 225, 3) := by decide +kernel
theorem dX12_sideText_48 : decode cX12_sideText 48 = .ok (.iload_n 1, 1) := by decide +kernel
theorem dX12_sideText_49 : decode cX12_sideText 49 = .ok (.ireturn, 1) := by decide +kernel
theorem dX12_seatText_0 : decode cX12_seatText 0 = .ok (.aload_n 0, 1) := by decide +kernel
theorem dX12_seatText_1 : decode cX12_seatText 1 = .ok (.aload_n 0, 1) := by decide +kernel
theorem dX12_seatText_2 : decode cX12_seatText 2 = .ok (.invokevirtual 238, 3) := by decide +kernel
theorem dX12_seatText_5 : decode cX12_seatText 5 = .ok (.iconst 1, 1) := by decide +kernel
theorem dX12_seatText_6 : decode cX12_seatText 6 = .ok (.invokevirtual 221, 3) := by decide +kernel
theorem dX12_seatText_9 : decode cX12_seatText 9 = .ok (.aload_n 0, 1) := by decide +kernel
theorem dX12_seatText_10 : decode cX12_seatText 10 = .ok (.invokevirtual 241, 3) := by decide +kernel
theorem dX12_seatText_13 : decode cX12_seatText 13 = .ok (.istore_n 1, 1) := by decide +kernel
theorem dX12_seatText_14 : decode cX12_seatText 14 = .ok (.aload_n 0, 1) := by decide +kernel
theorem dX12_seatText_15 : decode cX12_seatText 15 = .ok (.aload_n 0, 1) := by decide +kernel
theorem dX12_seatText_16 : decode cX12_seatText 16 = .ok (.invokevirtual 228, 3) := by decide +kernel
theorem dX12_seatText_19 : decode cX12_seatText 19 = .ok (.ifCond .eq 16, 3) := by decide +kernel
theorem dX12_seatText_22 : decode cX12_seatText 22 = .ok (.iload_n 1, 1) := by decide +kernel
theorem dX12_seatText_23 : decode cX12_seatText 23 = .ok (.iconst (-1), 1) := by decide +kernel
theorem dX12_seatText_24 : decode cX12_seatText 24 = .ok (.if_icmp .eq 11, 3) := by decide +kernel
theorem dX12_seatText_27 : decode cX12_seatText 27 = .ok (.aload_n 0, 1) := by decide +kernel
theorem dX12_seatText_28 : decode cX12_seatText 28 = .ok (.iload_n 1, 1) := by decide +kernel
theorem dX12_seatText_29 : decode cX12_seatText 29 = .ok (.invokevirtual 79, 3) := by decide +kernel
theorem dX12_seatText_32 : decode cX12_seatText 32 = .ok (.ifCond .ne 7, 3) := by decide +kernel
theorem dX12_seatText_35 : decode cX12_seatText 35 = .ok (.iconst 1, 1) := by decide +kernel
theorem dX12_seatText_36 : decode cX12_seatText 36 = .ok (.goto 4, 3) := by decide +kernel
theorem dX12_seatText_39 : decode cX12_seatText 39 = .ok (.iconst 0, 1) := by decide +kernel
theorem dX12_seatText_40 : decode cX12_seatText 40 = .ok (.iconst 3, 1) := by decide +kernel
theorem dX12_seatText_41 : decode cX12_seatText 41 = .ok (.invokevirtual 221, 3) := by decide +kernel
theorem dX12_seatText_44 : decode cX12_seatText 44 = .ok (.aload_n 0, 1) := by decide +kernel
theorem dX12_seatText_45 : decode cX12_seatText 45 = .ok (.aload_n 0, 1) := by decide +kernel
theorem dX12_seatText_46 : decode cX12_seatText 46 = .ok (.invokevirtual 228, 3) := by decide +kernel
theorem dX12_seatText_49 : decode cX12_seatText 49 = .ok (.ifCond .eq 8, 3) := by decide +kernel
theorem dX12_seatText_52 : decode cX12_seatText 52 = .ok (.iload_n 1, 1) := by decide +kernel
theorem dX12_seatText_53 : decode cX12_seatText 53 = .ok (.iconst (-1), 1) := by decide +kernel
theorem dX12_seatText_54 : decode cX12_seatText 54 = .ok (.if_icmp .eq 7, 3) := by decide +kernel
theorem dX12_seatText_57 : decode cX12_seatText 57 = .ok (.iconst 1, 1) := by decide +kernel
theorem dX12_seatText_58 : decode cX12_seatText 58 = .ok (.goto 4, 3) := by decide +kernel
theorem dX12_seatText_61 : decode cX12_seatText 61 = .ok (.iconst 0, 1) := by decide +kernel
theorem dX12_seatText_62 : decode cX12_seatText 62 = .ok (.iconst 4, 1) := by decide +kernel
theorem dX12_seatText_63 : decode cX12_seatText 63 = .ok (.invokevirtual 221, 3) := by decide +kernel
theorem dX12_seatText_66 : decode cX12_seatText 66 = .ok (.aload_n 0, 1) := by decide +kernel
theorem dX12_seatText_67 : decode cX12_seatText 67 = .ok (.invokevirtual 225, 3) := by decide +kernel
theorem dX12_seatText_70 : decode cX12_seatText 70 = .ok (.aload_n 0, 1) := by decide +kernel
theorem dX12_seatText_71 : decode cX12_seatText 71 = .ok (.iconst 0, 1) := by decide +kernel
theorem dX12_seatText_72 : decode cX12_seatText 72 = .ok (.aload_n 0, 1) := by decide +kernel
theorem dX12_seatText_73 : decode cX12_seatText 73 = .ok (.getfield 7, 3) := by decide +kernel
theorem dX12_seatText_76 : decode cX12_seatText 76 = .ok (.bipush 7, 2) := by decide +kernel
theorem dX12_seatText_78 : decode cX12_seatText 78 = .ok (.iaload, 1) := by decide +kernel
theorem dX12_seatText_79 : decode cX12_seatText 79 = .ok (.iconst 1, 1) := by decide +kernel
theorem dX12_seatText_80 : decode cX12_seatText 80 = .ok (.isub, 1) := by decide +kernel
theorem dX12_seatText_81 : decode cX12_seatText 81 = .ok (.invokevirtual 235, 3) := by decide +kernel
theorem dX12_seatText_84 : decode cX12_seatText 84 = .ok (.istore_n 2, 1) := by decide +kernel
theorem dX12_seatText_85 : decode cX12_seatText 85 = .ok (.aload_n 0, 1) := by decide +kernel
theorem dX12_seatText_86 : decode cX12_seatText 86 = .ok (.invokevirtual 252, 3) := by decide +kernel
theorem dX12_seatText_89 : decode cX12_seatText 89 = .ok (.istore_n 3, 1) := by decide +kernel
theorem dX12_seatText_90 : decode cX12_seatText 90 = .ok (.aload_n 0, 1) := by decide +kernel
theorem dX12_seatText_91 : decode cX12_seatText 91 = .ok (.aload_n 0, 1) := by decide +kernel
theorem dX12_seatText_92 : decode cX12_seatText 92 = .ok (.getfield 188, 3) := by decide +kernel
theorem dX12_seatText_95 : decode cX12_seatText 95 = .ok (.iconst 2, 1) := by decide +kernel
theorem dX12_seatText_96 : decode cX12_seatText 96 = .ok (.if_icmp .ne 7, 3) := by decide +kernel
theorem dX12_seatText_99 : decode cX12_seatText 99 = .ok (.iconst 1, 1) := by decide +kernel
theorem dX12_seatText_100 : decode cX12_seatText 100 = .ok (.goto 4, 3) := by decide +kernel
theorem dX12_seatText_103 : decode cX12_seatText 103 = .ok (.iconst 0, 1) := by decide +kernel
theorem dX12_seatText_104 : decode cX12_seatText 104 = .ok (.iconst 1, 1) := by decide +kernel
theorem dX12_seatText_105 : decode cX12_seatText 105 = .ok (.invokevirtual 221, 3) := by decide +kernel
theorem dX12_seatText_108 : decode cX12_seatText 108 = .ok (.aload_n 0, 1) := by decide +kernel
theorem dX12_seatText_109 : decode cX12_seatText 109 = .ok (.aload_n 0, 1) := by decide +kernel
theorem dX12_seatText_110 : decode cX12_seatText 110 = .ok (.invokevirtual 228, 3) := by decide +kernel
theorem dX12_seatText_113 : decode cX12_seatText 113 = .ok (.ifCond .eq 22, 3) := by decide +kernel
theorem dX12_seatText_116 : decode cX12_seatText 116 = .ok (.aload_n 0, 1) := by decide +kernel
theorem dX12_seatText_117 : decode cX12_seatText 117 = .ok (.getfield 205, 3) := by decide +kernel
theorem dX12_seatText_120 : decode cX12_seatText 120 = .ok (.i2l, 1) := by decide +kernel
theorem dX12_seatText_121 : decode cX12_seatText 121 = .ok (.lconst 1, 1) := by decide +kernel
theorem dX12_seatText_122 : decode cX12_seatText 122 = .ok (.aload_n 0, 1) := by decide +kernel
theorem dX12_seatText_123 : decode cX12_seatText 123 = .ok (.iload_n 2, 1) := by decide +kernel
theorem dX12_seatText_124 : decode cX12_seatText 124 = .ok (.iconst 0, 1) := by decide +kernel
theorem dX12_seatText_125 : decode cX12_seatText 125 = .ok (.invokevirtual 83, 3) := by decide +kernel
theorem dX12_seatText_128 : decode cX12_seatText 128 = .ok (.i2l, 1) := by decide +kernel
theorem dX12_seatText_129 : decode cX12_seatText 129 = .ok (.invokestatic 86, 3) := by decide +kernel
theorem dX12_seatText_132 : decode cX12_seatText 132 = .ok (.ifCond .eq 7, 3) := by decide +kernel
theorem dX12_seatText_135 : decode cX12_seatText 135 = .ok (.iconst 1, 1) := by decide +kernel
theorem dX12_seatText_136 : decode cX12_seatText 136 = .ok (.goto 4, 3) := by decide +kernel
theorem dX12_seatText_139 : decode cX12_seatText 139 = .ok (.iconst 0, 1) := by decide +kernel
theorem dX12_seatText_140 : decode cX12_seatText 140 = .ok (.iconst 2, 1) := by decide +kernel
theorem dX12_seatText_141 : decode cX12_seatText 141 = .ok (.invokevirtual 221, 3) := by decide +kernel
theorem dX12_seatText_144 : decode cX12_seatText 144 = .ok (.aload_n 0, 1) := by decide +kernel
theorem dX12_seatText_145 : decode cX12_seatText 145 = .ok (.invokevirtual 228, 3) := by decide +kernel
theorem dX12_seatText_148 : decode cX12_seatText 148 = .ok (.ifCond .eq 12, 3) := by decide +kernel
theorem dX12_seatText_151 : decode cX12_seatText 151 = .ok (.iload_n 3, 1) := by decide +kernel
theorem dX12_seatText_152 : decode cX12_seatText 152 = .ok (.aload_n 0, 1) := by decide +kernel
theorem dX12_seatText_153 : decode cX12_seatText 153 = .ok (.getfield 205, 3) := by decide +kernel
theorem dX12_seatText_156 : decode cX12_seatText 156 = .ok (.imul, 1) := by decide +kernel
theorem dX12_seatText_157 : decode cX12_seatText 157 = .ok (.goto 4, 3) := by decide +kernel
theorem dX12_seatText_160 : decode cX12_seatText 160 = .ok (.iconst 1, 1) := by decide +kernel
theorem dX12_seatText_161 : decode cX12_seatText 161 = .ok (.istore 4, 2) := by decide +kernel
theorem dX12_seatText_163 : decode cX12_seatText 163 = .ok (.aload_n 0, 1) := by decide +kernel
theorem dX12_seatText_164 : decode cX12_seatText 164 = .ok (.aload_n 0, 1) := by decide +kernel
theorem dX12_seatText_165 : decode cX12_seatText 165 = .ok (.invokevirtual 228, 3) := by decide +kernel
theorem dX12_seatText_168 : decode cX12_seatText 168 = .ok (.ifCond .eq 14, 3) := by decide +kernel
theorem dX12_seatText_171 : decode cX12_seatText 171 = .ok (.aload_n 0, 1) := by decide +kernel
theorem dX12_seatText_172 : decode cX12_seatText 172 = .ok (.iload_n 2, 1) := by decide +kernel
theorem dX12_seatText_173 : decode cX12_seatText 173 = .ok (.iload 4, 2) := by decide +kernel
theorem dX12_seatText_175 : decode cX12_seatText 175 = .ok (.invokevirtual 90, 3) := by decide +kernel
theorem dX12_seatText_178 : decode cX12_seatText 178 = .ok (.iconst (-1), 1) := by decide +kernel
theorem dX12_seatText_179 : decode cX12_seatText 179 = .ok (.if_icmp .ne 7, 3) := by decide +kernel
theorem dX12_seatText_182 : decode cX12_seatText 182 = .ok (.iconst 1, 1) := by decide +kernel
theorem dX12_seatText_183 : decode cX12_seatText 183 = .ok (.goto 4, 3) := by decide +kernel
theorem dX12_seatText_186 : decode cX12_seatText 186 = .ok (.iconst 0, 1) := by decide +kernel
theorem dX12_seatText_187 : decode cX12_seatText 187 = .ok (.iconst 3, 1) := by decide +kernel
theorem dX12_seatText_188 : decode cX12_seatText 188 = .ok (.invokevirtual 221, 3) := by decide +kernel
theorem dX12_seatText_191 : decode cX12_seatText 191 = .ok (.aload_n 0, 1) := by decide +kernel
theorem dX12_seatText_192 : decode cX12_seatText 192 = .ok (.invokevirtual 225, 3) := by decide +kernel
theorem dX12_seatText_195 : decode cX12_seatText 195 = .ok (.aload_n 0, 1) := by decide +kernel
theorem dX12_seatText_196 : decode cX12_seatText 196 = .ok (.invokevirtual 228, 3) := by decide +kernel
theorem dX12_seatText_199 : decode cX12_seatText 199 = .ok (.ifCond .eq 11, 3) := by decide +kernel
theorem dX12_seatText_202 : decode cX12_seatText 202 = .ok (.aload_n 0, 1) := by decide +kernel
theorem dX12_seatText_203 : decode cX12_seatText 203 = .ok (.iload_n 1, 1) := by decide +kernel
theorem dX12_seatText_204 : decode cX12_seatText 204 = .ok (.iload_n 2, 1) := by decide +kernel
theorem dX12_seatText_205 : decode cX12_seatText 205 = .ok (.iload 4, 2) := by decide +kernel
theorem dX12_seatText_207 : decode cX12_seatText 207 = .ok (.invokevirtual 56, 3) := by decide +kernel
theorem dX12_seatText_210 : decode cX12_seatText 210 = .ok (.return_, 1) := by decide +kernel
theorem dX12_setup_0 : decode cX12_setup 0 = .ok (.aload_n 0, 1) := by decide +kernel
theorem dX12_setup_1 : decode cX12_setup 1 = .ok (.aload_n 0, 1) := by decide +kernel
theorem dX12_setup_2 : decode cX12_setup 2 = .ok (.ldc2_w 255, 3) := by decide +kernel
theorem dX12_setup_5 : decode cX12_setup 5 = .ok (.invokevirtual 246, 3) := by decide +kernel
theorem dX12_setup_8 : decode cX12_setup 8 = .ok (.iconst 1, 1) := by decide +kernel
theorem dX12_setup_9 : decode cX12_setup 9 = .ok (.invokevirtual 221, 3) := by decide +kernel
theorem dX12_setup_12 : decode cX12_setup 12 = .ok (.aload_n 0, 1) := by decide +kernel
theorem dX12_setup_13 : decode cX12_setup 13 = .ok (.invokevirtual 225, 3) := by decide +kernel
theorem dX12_setup_16 : decode cX12_setup 16 = .ok (.aload_n 0, 1) := by decide +kernel
theorem dX12_setup_17 : decode cX12_setup 17 = .ok (.getfield 7, 3) := by decide +kernel
theorem dX12_setup_20 : decode cX12_setup 20 = .ok (.iconst 0, 1) := by decide +kernel
theorem dX12_setup_21 : decode cX12_setup 21 = .ok (.aload_n 0, 1) := by decide +kernel
theorem dX12_setup_22 : decode cX12_setup 22 = .ok (.iconst 0, 1) := by decide +kernel
theorem dX12_setup_23 : decode cX12_setup 23 = .ok (.bipush 20, 2) := by decide +kernel
theorem dX12_setup_25 : decode cX12_setup 25 = .ok (.invokevirtual 235, 3) := by decide +kernel
theorem dX12_setup_28 : decode cX12_setup 28 = .ok (.iastore, 1) := by decide +kernel
theorem dX12_setup_29 : decode cX12_setup 29 = .ok (.aload_n 0, 1) := by decide +kernel
theorem dX12_setup_30 : decode cX12_setup 30 = .ok (.getfield 7, 3) := by decide +kernel
theorem dX12_setup_33 : decode cX12_setup 33 = .ok (.iconst 1, 1) := by decide +kernel
theorem dX12_setup_34 : decode cX12_setup 34 = .ok (.aload_n 0, 1) := by decide +kernel
theorem dX12_setup_35 : decode cX12_setup 35 = .ok (.iconst 0, 1) := by decide +kernel
theorem dX12_setup_36 : decode cX12_setup 36 = .ok (.bipush 99, 2) := by decide +kernel
theorem dX12_setup_38 : decode cX12_setup 38 = .ok (.invokevirtual 235, 3) := by decide +kernel
theorem dX12_setup_41 : decode cX12_setup 41 = .ok (.iastore, 1) := by decide +kernel
theorem dX12_setup_42 : decode cX12_setup 42 = .ok (.aload_n 0, 1) := by decide +kernel
theorem dX12_setup_43 : decode cX12_setup 43 = .ok (.getfield 7, 3) := by decide +kernel
theorem dX12_setup_46 : decode cX12_setup 46 = .ok (.iconst 2, 1) := by decide +kernel
theorem dX12_setup_47 : decode cX12_setup 47 = .ok (.aload_n 0, 1) := by decide +kernel
theorem dX12_setup_48 : decode cX12_setup 48 = .ok (.iconst 0, 1) := by decide +kernel
theorem dX12_setup_49 : decode cX12_setup 49 = .ok (.bipush 99, 2) := by decide +kernel
theorem dX12_setup_51 : decode cX12_setup 51 = .ok (.invokevirtual 235, 3) := by decide +kernel
theorem dX12_setup_54 : decode cX12_setup 54 = .ok (.iastore, 1) := by decide +kernel
theorem dX12_setup_55 : decode cX12_setup 55 = .ok (.aload_n 0, 1) := by decide +kernel
theorem dX12_setup_56 : decode cX12_setup 56 = .ok (.getfield 7, 3) := by decide +kernel
theorem dX12_setup_59 : decode cX12_setup 59 = .ok (.iconst 3, 1) := by decide +kernel
theorem dX12_setup_60 : decode cX12_setup 60 = .ok (.aload_n 0, 1) := by decide +kernel
theorem dX12_setup_61 : decode cX12_setup 61 = .ok (.iconst 1, 1) := by decide +kernel
theorem dX12_setup_62 : decode cX12_setup 62 = .ok (.sipush 999, 3) := by decide +kernel
theorem dX12_setup_65 : decode cX12_setup 65 = .ok (.invokevirtual 235, 3) := by decide +kernel
theorem dX12_setup_68 : decode cX12_setup 68 = .ok (.iastore, 1) := by decide +kernel
theorem dX12_setup_69 : decode cX12_setup 69 = .ok (.aload_n 0, 1) := by decide +kernel
theorem dX12_setup_70 : decode cX12_setup 70 = .ok (.getfield 7, 3) := by decide +kernel
theorem dX12_setup_73 : decode cX12_setup 73 = .ok (.iconst 4, 1) := by decide +kernel
theorem dX12_setup_74 : decode cX12_setup 74 = .ok (.aload_n 0, 1) := by decide +kernel
theorem dX12_setup_75 : decode cX12_setup 75 = .ok (.iconst 0, 1) := by decide +kernel
theorem dX12_setup_76 : decode cX12_setup 76 = .ok (.sipush 999, 3) := by decide +kernel
theorem dX12_setup_79 : decode cX12_setup 79 = .ok (.invokevirtual 235, 3) := by decide +kernel
theorem dX12_setup_82 : decode cX12_setup 82 = .ok (.iastore, 1) := by decide +kernel
theorem dX12_setup_83 : decode cX12_setup 83 = .ok (.aload_n 0, 1) := by decide +kernel
theorem dX12_setup_84 : decode cX12_setup 84 = .ok (.getfield 7, 3) := by decide +kernel
theorem dX12_setup_87 : decode cX12_setup 87 = .ok (.iconst 5, 1) := by decide +kernel
theorem dX12_setup_88 : decode cX12_setup 88 = .ok (.aload_n 0, 1) := by decide +kernel
theorem dX12_setup_89 : decode cX12_setup 89 = .ok (.iconst 0, 1) := by decide +kernel
theorem dX12_setup_90 : decode cX12_setup 90 = .ok (.ldc_w 257, 3) := by decide +kernel
theorem dX12_setup_93 : decode cX12_setup 93 = .ok (.invokevirtual 235, 3) := by decide +kernel
theorem dX12_setup_96 : decode cX12_setup 96 = .ok (.iastore, 1) := by decide +kernel
theorem dX12_setup_97 : decode cX12_setup 97 = .ok (.aload_n 0, 1) := by decide +kernel
theorem dX12_setup_98 : decode cX12_setup 98 = .ok (.bipush 59, 2) := by decide +kernel
theorem dX12_setup_100 : decode cX12_setup 100 = .ok (.invokevirtual 258, 3) := by decide +kernel
theorem dX12_setup_103 : decode cX12_setup 103 = .ok (.aload_n 0, 1) := by decide +kernel
theorem dX12_setup_104 : decode cX12_setup 104 = .ok (.ldc2_w 261, 3) := by decide +kernel
theorem dX12_setup_107 : decode cX12_setup 107 = .ok (.invokevirtual 246, 3) := by decide +kernel
theorem dX12_setup_110 : decode cX12_setup 110 = .ok (.ifCond .eq 41, 3) := by decide +kernel
theorem dX12_setup_113 : decode cX12_setup 113 = .ok (.aload_n 0, 1) := by decide +kernel
theorem dX12_setup_114 : decode cX12_setup 114 = .ok (.aload_n 0, 1) := by decide +kernel
theorem dX12_setup_115 : decode cX12_setup 115 = .ok (.getfield 7, 3) := by decide +kernel
theorem dX12_setup_118 : decode cX12_setup 118 = .ok (.bipush 7, 2) := by decide +kernel
theorem dX12_setup_120 : decode cX12_setup 120 = .ok (.iaload, 1) := by decide +kernel
theorem dX12_setup_121 : decode cX12_setup 121 = .ok (.iconst 5, 1) := by decide +kernel
theorem dX12_setup_122 : decode cX12_setup 122 = .ok (.if_icmp .ge 7, 3) := by decide +kernel
theorem dX12_setup_125 : decode cX12_setup 125 = .ok (.iconst 1, 1) := by decide +kernel
theorem dX12_setup_126 : decode cX12_setup 126 = .ok (.goto 4, 3) := by decide +kernel
theorem dX12_setup_129 : decode cX12_setup 129 = .ok (.iconst 0, 1) := by decide +kernel
theorem dX12_setup_130 : decode cX12_setup 130 = .ok (.iconst 5, 1) := by decide +kernel
theorem dX12_setup_131 : decode cX12_setup 131 = .ok (.invokevirtual 221, 3) := by decide +kernel
theorem dX12_setup_134 : decode cX12_setup 134 = .ok (.aload_n 0, 1) := by decide +kernel
theorem dX12_setup_135 : decode cX12_setup 135 = .ok (.invokevirtual 225, 3) := by decide +kernel
theorem dX12_setup_138 : decode cX12_setup 138 = .ok (.aload_n 0, 1) := by decide +kernel
theorem dX12_setup_139 : decode cX12_setup 139 = .ok (.invokevirtual 263, 3) := by decide +kernel
theorem dX12_setup_142 : decode cX12_setup 142 = .ok (.aload_n 0, 1) := by decide +kernel
theorem dX12_setup_143 : decode cX12_setup 143 = .ok (.bipush 59, 2) := by decide +kernel
theorem dX12_setup_145 : decode cX12_setup 145 = .ok (.invokevirtual 258, 3) := by decide +kernel
theorem dX12_setup_148 : decode cX12_setup 148 = .ok (.goto (-45), 3) := by decide +kernel
theorem dX12_setup_151 : decode cX12_setup 151 = .ok (.aload_n 0, 1) := by decide +kernel
theorem dX12_setup_152 : decode cX12_setup 152 = .ok (.ldc2_w 266, 3) := by decide +kernel
theorem dX12_setup_155 : decode cX12_setup 155 = .ok (.invokevirtual 246, 3) := by decide +kernel
theorem dX12_setup_158 : decode cX12_setup 158 = .ok (.ifCond .eq 42, 3) := by decide +kernel
theorem dX12_setup_161 : decode cX12_setup 161 = .ok (.aload_n 0, 1) := by decide +kernel
theorem dX12_setup_162 : decode cX12_setup 162 = .ok (.aload_n 0, 1) := by decide +kernel
theorem dX12_setup_163 : decode cX12_setup 163 = .ok (.getfield 7, 3) := by decide +kernel
theorem dX12_setup_166 : decode cX12_setup 166 = .ok (.bipush 8, 2) := by decide +kernel
theorem dX12_setup_168 : decode cX12_setup 168 = .ok (.iaload, 1) := by decide +kernel
theorem dX12_setup_169 : decode cX12_setup 169 = .ok (.bipush 24, 2) := by decide +kernel
theorem dX12_setup_171 : decode cX12_setup 171 = .ok (.if_icmp .ge 7, 3) := by decide +kernel
theorem dX12_setup_174 : decode cX12_setup 174 = .ok (.iconst 1, 1) := by decide +kernel
theorem dX12_setup_175 : decode cX12_setup 175 = .ok (.goto 4, 3) := by decide +kernel
theorem dX12_setup_178 : decode cX12_setup 178 = .ok (.iconst 0, 1) := by decide +kernel
theorem dX12_setup_179 : decode cX12_setup 179 = .ok (.iconst 5, 1) := by decide +kernel
theorem dX12_setup_180 : decode cX12_setup 180 = .ok (.invokevirtual 221, 3) := by decide +kernel
theorem dX12_setup_183 : decode cX12_setup 183 = .ok (.aload_n 0, 1) := by decide +kernel
theorem dX12_setup_184 : decode cX12_setup 184 = .ok (.invokevirtual 225, 3) := by decide +kernel
theorem dX12_setup_187 : decode cX12_setup 187 = .ok (.aload_n 0, 1) := by decide +kernel
theorem dX12_setup_188 : decode cX12_setup 188 = .ok (.invokevirtual 268, 3) := by decide +kernel
theorem dX12_setup_191 : decode cX12_setup 191 = .ok (.aload_n 0, 1) := by decide +kernel
theorem dX12_setup_192 : decode cX12_setup 192 = .ok (.bipush 59, 2) := by decide +kernel
theorem dX12_setup_194 : decode cX12_setup 194 = .ok (.invokevirtual 258, 3) := by decide +kernel
theorem dX12_setup_197 : decode cX12_setup 197 = .ok (.goto (-46), 3) := by decide +kernel
theorem dX12_setup_200 : decode cX12_setup 200 = .ok (.aload_n 0, 1) := by decide +kernel
theorem dX12_setup_201 : decode cX12_setup 201 = .ok (.ldc2_w 271, 3) := by decide +kernel
theorem dX12_setup_204 : decode cX12_setup 204 = .ok (.invokevirtual 246, 3) := by decide +kernel
theorem dX12_setup_207 : decode cX12_setup 207 = .ok (.ifCond .eq 20, 3) := by decide +kernel
theorem dX12_setup_210 : decode cX12_setup 210 = .ok (.aload_n 0, 1) := by decide +kernel
theorem dX12_setup_211 : decode cX12_setup 211 = .ok (.invokevirtual 225, 3) := by decide +kernel
theorem dX12_setup_214 : decode cX12_setup 214 = .ok (.aload_n 0, 1) := by decide +kernel
theorem dX12_setup_215 : decode cX12_setup 215 = .ok (.invokevirtual 273, 3) := by decide +kernel
theorem dX12_setup_218 : decode cX12_setup 218 = .ok (.aload_n 0, 1) := by decide +kernel
theorem dX12_setup_219 : decode cX12_setup 219 = .ok (.bipush 59, 2) := by decide +kernel
theorem dX12_setup_221 : decode cX12_setup 221 = .ok (.invokevirtual 258, 3) := by decide +kernel
theorem dX12_setup_224 : decode cX12_setup 224 = .ok (.goto (-24), 3) := by decide +kernel
theorem dX12_setup_227 : decode cX12_setup 227 = .ok (.aload_n 0, 1) := by decide +kernel
theorem dX12_setup_228 : decode cX12_setup 228 = .ok (.aload_n 0, 1) := by decide +kernel
theorem dX12_setup_229 : decode cX12_setup 229 = .ok (.getfield 188, 3) := by decide +kernel
theorem dX12_setup_232 : decode cX12_setup 232 = .ok (.ifCond .ne 7, 3) := by decide +kernel
theorem dX12_setup_235 : decode cX12_setup 235 = .ok (.iconst 1, 1) := by decide +kernel
theorem dX12_setup_236 : decode cX12_setup 236 = .ok (.goto 4, 3) := by decide +kernel
theorem dX12_setup_239 : decode cX12_setup 239 = .ok (.iconst 0, 1) := by decide +kernel
theorem dX12_setup_240 : decode cX12_setup 240 = .ok (.iconst 1, 1) := by decide +kernel
theorem dX12_setup_241 : decode cX12_setup 241 = .ok (.invokevirtual 221, 3) := by decide +kernel
theorem dX12_setup_244 : decode cX12_setup 244 = .ok (.return_, 1) := by decide +kernel
theorem dX12_takesText_0 : decode cX12_takesText 0 = .ok (.iconst 0, 1) := by decide +kernel
theorem dX12_takesText_1 : decode cX12_takesText 1 = .ok (.istore_n 1, 1) := by decide +kernel
theorem dX12_takesText_2 : decode cX12_takesText 2 = .ok (.iload_n 1, 1) := by decide +kernel
theorem dX12_takesText_3 : decode cX12_takesText 3 = .ok (.aload_n 0, 1) := by decide +kernel
theorem dX12_takesText_4 : decode cX12_takesText 4 = .ok (.getfield 155, 3) := by decide +kernel
theorem dX12_takesText_7 : decode cX12_takesText 7 = .ok (.if_icmp .ge 21, 3) := by decide +kernel
theorem dX12_takesText_10 : decode cX12_takesText 10 = .ok (.aload_n 0, 1) := by decide +kernel
theorem dX12_takesText_11 : decode cX12_takesText 11 = .ok (.getfield 32, 3) := by decide +kernel
theorem dX12_takesText_14 : decode cX12_takesText 14 = .ok (.iload_n 1, 1) := by decide +kernel
theorem dX12_takesText_15 : decode cX12_takesText 15 = .ok (.aload_n 0, 1) := by decide +kernel
theorem dX12_takesText_16 : decode cX12_takesText 16 = .ok (.getfield 29, 3) := by decide +kernel
theorem dX12_takesText_19 : decode cX12_takesText 19 = .ok (.iload_n 1, 1) := by decide +kernel
theorem dX12_takesText_20 : decode cX12_takesText 20 = .ok (.iaload, 1) := by decide +kernel
theorem dX12_takesText_21 : decode cX12_takesText 21 = .ok (.iastore, 1) := by decide +kernel
theorem dX12_takesText_22 : decode cX12_takesText 22 = .ok (.iinc 1 1, 3) := by decide +kernel
theorem dX12_takesText_25 : decode cX12_takesText 25 = .ok (.goto (-23), 3) := by decide +kernel
theorem dX12_takesText_28 : decode cX12_takesText 28 = .ok (.aload_n 0, 1) := by decide +kernel
theorem dX12_takesText_29 : decode cX12_takesText 29 = .ok (.aload_n 0, 1) := by decide +kernel
theorem dX12_takesText_30 : decode cX12_takesText 30 = .ok (.getfield 155, 3) := by decide +kernel
theorem dX12_takesText_33 : decode cX12_takesText 33 = .ok (.putfield 168, 3) := by decide +kernel
theorem dX12_takesText_36 : decode cX12_takesText 36 = .ok (.aload_n 0, 1) := by decide +kernel
theorem dX12_takesText_37 : decode cX12_takesText 37 = .ok (.iconst 0, 1) := by decide +kernel
theorem dX12_takesText_38 : decode cX12_takesText 38 = .ok (.putfield 155, 3) := by decide +kernel
theorem dX12_takesText_41 : decode cX12_takesText 41 = .ok (.return_, 1) := by decide +kernel
theorem dX12_tellsError_0 : decode cX12_tellsError 0 = .ok (.aload_n 0, 1) := by decide +kernel
theorem dX12_tellsError_1 : decode cX12_tellsError 1 = .ok (.aload_n 0, 1) := by decide +kernel
theorem dX12_tellsError_2 : decode cX12_tellsError 2 = .ok (.getfield 209, 3) := by decide +kernel
theorem dX12_tellsError_5 : decode cX12_tellsError 5 = .ok (.putfield 276, 3) := by decide +kernel
theorem dX12_tellsError_8 : decode cX12_tellsError 8 = .ok (.aload_n 0, 1) := by decide +kernel
theorem dX12_tellsError_9 : decode cX12_tellsError 9 = .ok (.aload_n 0, 1) := by decide +kernel
theorem dX12_tellsError_10 : decode cX12_tellsError 10 = .ok (.getfield 209, 3) := by decide +kernel
theorem dX12_tellsError_13 : decode cX12_tellsError 13 = .ok (.ifCond .ne 7, 3) := by decide +kernel
theorem dX12_tellsError_16 : decode cX12_tellsError 16 = .ok (.iconst (-1), 1) := by decide +kernel
theorem dX12_tellsError_17 : decode cX12_tellsError 17 = .ok (.goto 7, 3) := by decide +kernel
theorem dX12_tellsError_20 : decode cX12_tellsError 20 = .ok (.aload_n 0, 1) := by decide +kernel
theorem dX12_tellsError_21 : decode cX12_tellsError 21 = .ok (.getfield 212, 3) := by decide +kernel
theorem dX12_tellsError_24 : decode cX12_tellsError 24 = .ok (.putfield 35, 3) := by decide +kernel
theorem dX12_tellsError_27 : decode cX12_tellsError 27 = .ok (.return_, 1) := by decide +kernel
theorem dX12_load_0 : decode cX12_load 0 = .ok (.aload_n 0, 1) := by decide +kernel
theorem dX12_load_1 : decode cX12_load 1 = .ok (.iconst 0, 1) := by decide +kernel
theorem dX12_load_2 : decode cX12_load 2 = .ok (.putfield 63, 3) := by decide +kernel
theorem dX12_load_5 : decode cX12_load 5 = .ok (.aload_n 0, 1) := by decide +kernel
theorem dX12_load_6 : decode cX12_load 6 = .ok (.invokevirtual 279, 3) := by decide +kernel
theorem dX12_load_9 : decode cX12_load 9 = .ok (.aload_n 0, 1) := by decide +kernel
theorem dX12_load_10 : decode cX12_load 10 = .ok (.getfield 7, 3) := by decide +kernel
theorem dX12_load_13 : decode cX12_load 13 = .ok (.iconst 0, 1) := by decide +kernel
theorem dX12_load_14 : decode cX12_load 14 = .ok (.aload_n 0, 1) := by decide +kernel
theorem dX12_load_15 : decode cX12_load 15 = .ok (.getfield 13, 3) := by decide +kernel
theorem dX12_load_18 : decode cX12_load 18 = .ok (.iconst 0, 1) := by decide +kernel
theorem dX12_load_19 : decode cX12_load 19 = .ok (.invokestatic 282, 3) := by decide +kernel
theorem dX12_load_22 : decode cX12_load 22 = .ok (.iconst 0, 1) := by decide +kernel
theorem dX12_load_23 : decode cX12_load 23 = .ok (.istore_n 1, 1) := by decide +kernel
theorem dX12_load_24 : decode cX12_load 24 = .ok (.iload_n 1, 1) := by decide +kernel
theorem dX12_load_25 : decode cX12_load 25 = .ok (.sipush 293, 3) := by decide +kernel
theorem dX12_load_28 : decode cX12_load 28 = .ok (.if_icmp .ge 16, 3) := by decide +kernel
theorem dX12_load_31 : decode cX12_load 31 = .ok (.aload_n 0, 1) := by decide +kernel
theorem dX12_load_32 : decode cX12_load 32 = .ok (.getfield 7, 3) := by decide +kernel
theorem dX12_load_35 : decode cX12_load 35 = .ok (.iload_n 1, 1) := by decide +kernel
theorem dX12_load_36 : decode cX12_load 36 = .ok (.iconst 0, 1) := by decide +kernel
theorem dX12_load_37 : decode cX12_load 37 = .ok (.iastore, 1) := by decide +kernel
theorem dX12_load_38 : decode cX12_load 38 = .ok (.iinc 1 1, 3) := by decide +kernel
theorem dX12_load_41 : decode cX12_load 41 = .ok (.goto (-17), 3) := by decide +kernel
theorem dX12_load_44 : decode cX12_load 44 = .ok (.aload_n 0, 1) := by decide +kernel
theorem dX12_load_45 : decode cX12_load 45 = .ok (.invokevirtual 286, 3) := by decide +kernel
theorem dX12_load_48 : decode cX12_load 48 = .ok (.aload_n 0, 1) := by decide +kernel
theorem dX12_load_49 : decode cX12_load 49 = .ok (.invokevirtual 289, 3) := by decide +kernel
theorem dX12_load_52 : decode cX12_load 52 = .ok (.aload_n 0, 1) := by decide +kernel
theorem dX12_load_53 : decode cX12_load 53 = .ok (.invokevirtual 292, 3) := by decide +kernel
theorem dX12_load_56 : decode cX12_load 56 = .ok (.aload_n 0, 1) := by decide +kernel
theorem dX12_load_57 : decode cX12_load 57 = .ok (.getfield 209, 3) := by decide +kernel
theorem dX12_load_60 : decode cX12_load 60 = .ok (.ifCond .eq 21, 3) := by decide +kernel
theorem dX12_load_63 : decode cX12_load 63 = .ok (.aload_n 0, 1) := by decide +kernel
theorem dX12_load_64 : decode cX12_load 64 = .ok (.getfield 13, 3) := by decide +kernel
theorem dX12_load_67 : decode cX12_load 67 = .ok (.iconst 0, 1) := by decide +kernel
theorem dX12_load_68 : decode cX12_load 68 = .ok (.aload_n 0, 1) := by decide +kernel
theorem dX12_load_69 : decode cX12_load 69 = .ok (.getfield 7, 3) := by decide +kernel
theorem dX12_load_72 : decode cX12_load 72 = .ok (.iconst 0, 1) := by decide +kernel
theorem dX12_load_73 : decode cX12_load 73 = .ok (.invokestatic 282, 3) := by decide +kernel
theorem dX12_load_76 : decode cX12_load 76 = .ok (.aload_n 0, 1) := by decide +kernel
theorem dX12_load_77 : decode cX12_load 77 = .ok (.getfield 209, 3) := by decide +kernel
theorem dX12_load_80 : decode cX12_load 80 = .ok (.ireturn, 1) := by decide +kernel
theorem dX12_load_81 : decode cX12_load 81 = .ok (.aload_n 0, 1) := by decide +kernel
theorem dX12_load_82 : decode cX12_load 82 = .ok (.getfield 7, 3) := by decide +kernel
theorem dX12_load_85 : decode cX12_load 85 = .ok (.bipush 9, 2) := by decide +kernel
theorem dX12_load_87 : decode cX12_load 87 = .ok (.aload_n 0, 1) := by decide +kernel
theorem dX12_load_88 : decode cX12_load 88 = .ok (.invokevirtual 59, 3) := by decide +kernel
theorem dX12_load_91 : decode cX12_load 91 = .ok (.iastore, 1) := by decide +kernel
theorem dX12_load_92 : decode cX12_load 92 = .ok (.aload_n 0, 1) := by decide +kernel
theorem dX12_load_93 : decode cX12_load 93 = .ok (.iconst 0, 1) := by decide +kernel
theorem dX12_load_94 : decode cX12_load 94 = .ok (.putfield 295, 3) := by decide +kernel
theorem dX12_load_97 : decode cX12_load 97 = .ok (.aload_n 0, 1) := by decide +kernel
theorem dX12_load_98 : decode cX12_load 98 = .ok (.getfield 22, 3) := by decide +kernel
theorem dX12_load_101 : decode cX12_load 101 = .ok (.iconst 0, 1) := by decide +kernel
theorem dX12_load_102 : decode cX12_load 102 = .ok (.iconst 0, 1) := by decide +kernel
theorem dX12_load_103 : decode cX12_load 103 = .ok (.bastore, 1) := by decide +kernel
theorem dX12_load_104 : decode cX12_load 104 = .ok (.aload_n 0, 1) := by decide +kernel
theorem dX12_load_105 : decode cX12_load 105 = .ok (.getfield 22, 3) := by decide +kernel
theorem dX12_load_108 : decode cX12_load 108 = .ok (.iconst 1, 1) := by decide +kernel
theorem dX12_load_109 : decode cX12_load 109 = .ok (.iconst 0, 1) := by decide +kernel
theorem dX12_load_110 : decode cX12_load 110 = .ok (.bastore, 1) := by decide +kernel
theorem dX12_load_111 : decode cX12_load 111 = .ok (.iconst 0, 1) := by decide +kernel
theorem dX12_load_112 : decode cX12_load 112 = .ok (.ireturn, 1) := by decide +kernel
theorem dX12_isOrder_0 : decode cX12_isOrder 0 = .ok (.aload_n 0, 1) := by decide +kernel
theorem dX12_isOrder_1 : decode cX12_isOrder 1 = .ok (.ldc2_w 298, 3) := by decide +kernel
theorem dX12_isOrder_4 : decode cX12_isOrder 4 = .ok (.invokevirtual 246, 3) := by decide +kernel
theorem dX12_isOrder_7 : decode cX12_isOrder 7 = .ok (.ifCond .ne 73, 3) := by decide +kernel
theorem dX12_isOrder_10 : decode cX12_isOrder 10 = .ok (.aload_n 0, 1) := by decide +kernel
theorem dX12_isOrder_11 : decode cX12_isOrder 11 = .ok (.ldc2_w 300, 3) := by decide +kernel
theorem dX12_isOrder_14 : decode cX12_isOrder 14 = .ok (.invokevirtual 246, 3) := by decide +kernel
theorem dX12_isOrder_17 : decode cX12_isOrder 17 = .ok (.ifCond .ne 63, 3) := by decide +kernel
theorem dX12_isOrder_20 : decode cX12_isOrder 20 = .ok (.aload_n 0, 1) := by decide +kernel
theorem dX12_isOrder_21 : decode cX12_isOrder 21 = .ok (.ldc2_w 302, 3) := by decide +kernel
theorem dX12_isOrder_24 : decode cX12_isOrder 24 = .ok (.invokevirtual 246, 3) := by decide +kernel
theorem dX12_isOrder_27 : decode cX12_isOrder 27 = .ok (.ifCond .ne 53, 3) := by decide +kernel
theorem dX12_isOrder_30 : decode cX12_isOrder 30 = .ok (.aload_n 0, 1) := by decide +kernel
theorem dX12_isOrder_31 : decode cX12_isOrder 31 = .ok (.ldc2_w 304, 3) := by decide +kernel
theorem dX12_isOrder_34 : decode cX12_isOrder 34 = .ok (.invokevirtual 246, 3) := by decide +kernel
theorem dX12_isOrder_37 : decode cX12_isOrder 37 = .ok (.ifCond .ne 43, 3) := by decide +kernel
theorem dX12_isOrder_40 : decode cX12_isOrder 40 = .ok (.aload_n 0, 1) := by decide +kernel
theorem dX12_isOrder_41 : decode cX12_isOrder 41 = .ok (.ldc2_w 306, 3) := by decide +kernel
theorem dX12_isOrder_44 : decode cX12_isOrder 44 = .ok (.invokevirtual 246, 3) := by decide +kernel
theorem dX12_isOrder_47 : decode cX12_isOrder 47 = .ok (.ifCond .ne 33, 3) := by decide +kernel
theorem dX12_isOrder_50 : decode cX12_isOrder 50 = .ok (.aload_n 0, 1) := by decide +kernel
theorem dX12_isOrder_51 : decode cX12_isOrder 51 = .ok (.ldc2_w 308, 3) := by decide +kernel
theorem dX12_isOrder_54 : decode cX12_isOrder 54 = .ok (.invokevirtual 246, 3) := by decide +kernel
theorem dX12_isOrder_57 : decode cX12_isOrder 57 = .ok (.ifCond .ne 23, 3) := by decide +kernel
theorem dX12_isOrder_60 : decode cX12_isOrder 60 = .ok (.aload_n 0, 1) := by decide +kernel
theorem dX12_isOrder_61 : decode cX12_isOrder 61 = .ok (.ldc2_w 310, 3) := by decide +kernel
theorem dX12_isOrder_64 : decode cX12_isOrder 64 = .ok (.invokevirtual 246, 3) := by decide +kernel
theorem dX12_isOrder_67 : decode cX12_isOrder 67 = .ok (.ifCond .ne 13, 3) := by decide +kernel
theorem dX12_isOrder_70 : decode cX12_isOrder 70 = .ok (.aload_n 0, 1) := by decide +kernel
theorem dX12_isOrder_71 : decode cX12_isOrder 71 = .ok (.ldc2_w 312, 3) := by decide +kernel
theorem dX12_isOrder_74 : decode cX12_isOrder 74 = .ok (.invokevirtual 246, 3) := by decide +kernel
theorem dX12_isOrder_77 : decode cX12_isOrder 77 = .ok (.ifCond .eq 7, 3) := by decide +kernel
theorem dX12_isOrder_80 : decode cX12_isOrder 80 = .ok (.iconst 1, 1) := by decide +kernel
theorem dX12_isOrder_81 : decode cX12_isOrder 81 = .ok (.goto 4, 3) := by decide +kernel
theorem dX12_isOrder_84 : decode cX12_isOrder 84 = .ok (.iconst 0, 1) := by decide +kernel
theorem dX12_isOrder_85 : decode cX12_isOrder 85 = .ok (.ireturn, 1) := by decide +kernel
theorem dX12_isActive_0 : decode cX12_isActive 0 = .ok (.aload_n 0, 1) := by decide +kernel
theorem dX12_isActive_1 : decode cX12_isActive 1 = .ok (.getfield 314, 3) := by decide +kernel
theorem dX12_isActive_4 : decode cX12_isActive 4 = .ok (.ifCond .eq 21, 3) := by decide +kernel
theorem dX12_isActive_7 : decode cX12_isActive 7 = .ok (.aload_n 0, 1) := by decide +kernel
theorem dX12_isActive_8 : decode cX12_isActive 8 = .ok (.getfield 209, 3) := by decide +kernel
theorem dX12_isActive_11 : decode cX12_isActive 11 = .ok (.ifCond .ne 14, 3) := by decide +kernel
theorem dX12_isActive_14 : decode cX12_isActive 14 = .ok (.aload_n 0, 1) := by decide +kernel
theorem dX12_isActive_15 : decode cX12_isActive 15 = .ok (.getfield 318, 3) := by decide +kernel
theorem dX12_isActive_18 : decode cX12_isActive 18 = .ok (.ifCond .ne 7, 3) := by decide +kernel
theorem dX12_isActive_21 : decode cX12_isActive 21 = .ok (.iconst 1, 1) := by decide +kernel
theorem dX12_isActive_22 : decode cX12_isActive 22 = .ok (.goto 4, 3) := by decide +kernel
theorem dX12_isActive_25 : decode cX12_isActive 25 = .ok (.iconst 0, 1) := by decide +kernel
theorem dX12_isActive_26 : decode cX12_isActive 26 = .ok (.ireturn, 1) := by decide +kernel
theorem dX12_came_0 : decode cX12_came 0 = .ok (.aload_n 0, 1) := by decide +kernel
theorem dX12_came_1 : decode cX12_came 1 = .ok (.dup, 1) := by decide +kernel
theorem dX12_came_2 : decode cX12_came 2 = .ok (.getfield 321, 3) := by decide +kernel
theorem dX12_came_5 : decode cX12_came 5 = .ok (.iload_n 1, 1) := by decide +kernel
theorem dX12_came_6 : decode cX12_came 6 = .ok (.invokestatic 324, 3) := by decide +kernel
theorem dX12_came_9 : decode cX12_came 9 = .ok (.iadd, 1) := by decide +kernel
theorem dX12_came_10 : decode cX12_came 10 = .ok (.putfield 321, 3) := by decide +kernel
theorem dX12_came_13 : decode cX12_came 13 = .ok (.aload_n 0, 1) := by decide +kernel
theorem dX12_came_14 : decode cX12_came 14 = .ok (.iload_n 1, 1) := by decide +kernel
theorem dX12_came_15 : decode cX12_came 15 = .ok (.ifCond .eq 12, 3) := by decide +kernel
theorem dX12_came_18 : decode cX12_came 18 = .ok (.aload_n 0, 1) := by decide +kernel
theorem dX12_came_19 : decode cX12_came 19 = .ok (.getfield 321, 3) := by decide +kernel
theorem dX12_came_22 : decode cX12_came 22 = .ok (.bipush 40, 2) := by decide +kernel
theorem dX12_came_24 : decode cX12_came 24 = .ok (.if_icmp .ne 7, 3) := by decide +kernel
theorem dX12_came_27 : decode cX12_came 27 = .ok (.iconst 1, 1) := by decide +kernel
theorem dX12_came_28 : decode cX12_came 28 = .ok (.goto 4, 3) := by decide +kernel
theorem dX12_came_31 : decode cX12_came 31 = .ok (.iconst 0, 1) := by decide +kernel
theorem dX12_came_32 : decode cX12_came 32 = .ok (.putfield 318, 3) := by decide +kernel
theorem dX12_came_35 : decode cX12_came 35 = .ok (.return_, 1) := by decide +kernel
theorem dX12_nameText_0 : decode cX12_nameText 0 = .ok (.aload_n 0, 1) := by decide +kernel
theorem dX12_nameText_1 : decode cX12_nameText 1 = .ok (.aload_n 0, 1) := by decide +kernel
theorem dX12_nameText_2 : decode cX12_nameText 2 = .ok (.invokevirtual 238, 3) := by decide +kernel
theorem dX12_nameText_5 : decode cX12_nameText 5 = .ok (.iconst 1, 1) := by decide +kernel
theorem dX12_nameText_6 : decode cX12_nameText 6 = .ok (.invokevirtual 221, 3) := by decide +kernel
theorem dX12_nameText_9 : decode cX12_nameText 9 = .ok (.aload_n 0, 1) := by decide +kernel
theorem dX12_nameText_10 : decode cX12_nameText 10 = .ok (.invokevirtual 228, 3) := by decide +kernel
theorem dX12_nameText_13 : decode cX12_nameText 13 = .ok (.ifCond .eq 11, 3) := by decide +kernel
theorem dX12_nameText_16 : decode cX12_nameText 16 = .ok (.aload_n 0, 1) := by decide +kernel
theorem dX12_nameText_17 : decode cX12_nameText 17 = .ok (.getfield 194, 3) := by decide +kernel
theorem dX12_nameText_20 : decode cX12_nameText 20 = .ok (.l2i, 1) := by decide +kernel
theorem dX12_nameText_21 : decode cX12_nameText 21 = .ok (.goto 4, 3) := by decide +kernel
theorem dX12_nameText_24 : decode cX12_nameText 24 = .ok (.iconst 0, 1) := by decide +kernel
theorem dX12_nameText_25 : decode cX12_nameText 25 = .ok (.istore_n 1, 1) := by decide +kernel
theorem dX12_nameText_26 : decode cX12_nameText 26 = .ok (.aload_n 0, 1) := by decide +kernel
theorem dX12_nameText_27 : decode cX12_nameText 27 = .ok (.invokevirtual 225, 3) := by decide +kernel
theorem dX12_nameText_30 : decode cX12_nameText 30 = .ok (.iload_n 1, 1) := by decide +kernel
theorem dX12_nameText_31 : decode cX12_nameText 31 = .ok (.ireturn, 1) := by decide +kernel
theorem dX12_otherName_0 : decode cX12_otherName 0 = .ok (.aload_n 0, 1) := by decide +kernel
theorem dX12_otherName_1 : decode cX12_otherName 1 = .ok (.aload_n 0, 1) := by decide +kernel
theorem dX12_otherName_2 : decode cX12_otherName 2 = .ok (.invokevirtual 238, 3) := by decide +kernel
theorem dX12_otherName_5 : decode cX12_otherName 5 = .ok (.iconst 1, 1) := by decide +kernel
theorem dX12_otherName_6 : decode cX12_otherName 6 = .ok (.invokevirtual 221, 3) := by decide +kernel
theorem dX12_otherName_9 : decode cX12_otherName 9 = .ok (.aload_n 0, 1) := by decide +kernel
theorem dX12_otherName_10 : decode cX12_otherName 10 = .ok (.aload_n 0, 1) := by decide +kernel
theorem dX12_otherName_11 : decode cX12_otherName 11 = .ok (.invokevirtual 228, 3) := by decide +kernel
theorem dX12_otherName_14 : decode cX12_otherName 14 = .ok (.ifCond .eq 12, 3) := by decide +kernel
theorem dX12_otherName_17 : decode cX12_otherName 17 = .ok (.aload_n 0, 1) := by decide +kernel
theorem dX12_otherName_18 : decode cX12_otherName 18 = .ok (.getfield 194, 3) := by decide +kernel
theorem dX12_otherName_21 : decode cX12_otherName 21 = .ok (.l2i, 1) := by decide +kernel
theorem dX12_otherName_22 : decode cX12_otherName 22 = .ok (.iload_n 1, 1) := by decide +kernel
theorem dX12_otherName_23 : decode cX12_otherName 23 = .ok (.if_icmp .eq 7, 3) := by decide +kernel
theorem dX12_otherName_26 : decode cX12_otherName 26 = .ok (.iconst 1, 1) := by decide +kernel
theorem dX12_otherName_27 : decode cX12_otherName 27 = .ok (.goto 4, 3) := by decide +kernel
theorem dX12_otherName_30 : decode cX12_otherName 30 = .ok (.iconst 0, 1) := by decide +kernel
theorem dX12_otherName_31 : decode cX12_otherName 31 = .ok (.iconst 3, 1) := by decide +kernel
theorem dX12_otherName_32 : decode cX12_otherName 32 = .ok (.invokevirtual 221, 3) := by decide +kernel
theorem dX12_otherName_35 : decode cX12_otherName 35 = .ok (.aload_n 0, 1) := by decide +kernel
theorem dX12_otherName_36 : decode cX12_otherName 36 = .ok (.invokevirtual 328, 3) := by decide +kernel
theorem dX12_otherName_39 : decode cX12_otherName 39 = .ok (.ireturn, 1) := by decide +kernel
theorem dX12_joinText_0 : decode cX12_joinText 0 = .ok (.aload_n 0, 1) := by decide +kernel
theorem dX12_joinText_1 : decode cX12_joinText 1 = .ok (.invokevirtual 328, 3) := by decide +kernel
theorem dX12_joinText_4 : decode cX12_joinText 4 = .ok (.istore_n 1, 1) := by decide +kernel
theorem dX12_joinText_5 : decode cX12_joinText 5 = .ok (.aload_n 0, 1) := by decide +kernel
theorem dX12_joinText_6 : decode cX12_joinText 6 = .ok (.iconst 1, 1) := by decide +kernel
theorem dX12_joinText_7 : decode cX12_joinText 7 = .ok (.bipush 99, 2) := by decide +kernel
theorem dX12_joinText_9 : decode cX12_joinText 9 = .ok (.invokevirtual 235, 3) := by decide +kernel
theorem dX12_joinText_12 : decode cX12_joinText 12 = .ok (.istore_n 2, 1) := by decide +kernel
theorem dX12_joinText_13 : decode cX12_joinText 13 = .ok (.aload_n 0, 1) := by decide +kernel
theorem dX12_joinText_14 : decode cX12_joinText 14 = .ok (.iconst 0, 1) := by decide +kernel
theorem dX12_joinText_15 : decode cX12_joinText 15 = .ok (.sipush 9999, 3) := by decide +kernel
theorem dX12_joinText_18 : decode cX12_joinText 18 = .ok (.invokevirtual 235, 3) := by decide +kernel
theorem dX12_joinText_21 : decode cX12_joinText 21 = .ok (.istore_n 3, 1) := by decide +kernel
theorem dX12_joinText_22 : decode cX12_joinText 22 = .ok (.aload_n 0, 1) := by decide +kernel
theorem dX12_joinText_23 : decode cX12_joinText 23 = .ok (.invokevirtual 331, 3) := by decide +kernel
theorem dX12_joinText_26 : decode cX12_joinText 26 = .ok (.ifCond .eq 55, 3) := by decide +kernel
theorem dX12_joinText_29 : decode cX12_joinText 29 = .ok (.aload_n 0, 1) := by decide +kernel
theorem dX12_joinText_30 : decode cX12_joinText 30 = .ok (.getfield 7, 3) := by decide +kernel
theorem dX12_joinText_33 : decode cX12_joinText 33 = .ok (.bipush 8, 2) := by decide +kernel
theorem dX12_joinText_35 : decode cX12_joinText 35 = .ok (.iaload, 1) := by decide +kernel
theorem dX12_joinText_36 : decode cX12_joinText 36 = .ok (.bipush 24, 2) := by decide +kernel
theorem dX12_joinText_38 : decode cX12_joinText 38 = .ok (.if_icmp .ge 16, 3) := by decide +kernel
theorem dX12_joinText_41 : decode cX12_joinText 41 = .ok (.aload_n 0, 1) := by decide +kernel
theorem dX12_joinText_42 : decode cX12_joinText 42 = .ok (.iload_n 1, 1) := by decide +kernel
theorem dX12_joinText_43 : decode cX12_joinText 43 = .ok (.invokevirtual 232, 3) := by decide +kernel
theorem dX12_joinText_46 : decode cX12_joinText 46 = .ok (.iconst (-1), 1) := by decide +kernel
theorem dX12_joinText_47 : decode cX12_joinText 47 = .ok (.if_icmp .ne 7, 3) := by decide +kernel
theorem dX12_joinText_50 : decode cX12_joinText 50 = .ok (.iconst 1, 1) := by decide +kernel
theorem dX12_joinText_51 : decode cX12_joinText 51 = .ok (.goto 4, 3) := by decide +kernel
theorem dX12_joinText_54 : decode cX12_joinText 54 = .ok (.iconst 0, 1) := by decide +kernel
theorem dX12_joinText_55 : decode cX12_joinText 55 = .ok (.istore 4, 2) := by decide +kernel
theorem dX12_joinText_57 : decode cX12_joinText 57 = .ok (.iload 4, 2) := by decide +kernel
theorem dX12_joinText_59 : decode cX12_joinText 59 = .ok (.ifCond .eq 13, 3) := by decide +kernel
theorem dX12_joinText_62 : decode cX12_joinText 62 = .ok (.aload_n 0, 1) := by decide +kernel
theorem dX12_joinText_63 : decode cX12_joinText 63 = .ok (.iload_n 1, 1) := by decide +kernel
theorem dX12_joinText_64 : decode cX12_joinText 64 = .ok (.iload_n 2, 1) := by decide +kernel
theorem dX12_joinText_65 : decode cX12_joinText 65 = .ok (.iload_n 3, 1) := by decide +kernel
theorem dX12_joinText_66 : decode cX12_joinText 66 = .ok (.invokevirtual 334, 3) := by decide +kernel
theorem dX12_joinText_69 : decode cX12_joinText 69 = .ok (.goto 4, 3) := by decide +kernel
theorem dX12_joinText_72 : decode cX12_joinText 72 = .ok (.iconst (-1), 1) := by decide +kernel
theorem dX12_joinText_73 : decode cX12_joinText 73 = .ok (.istore 5, 2) := by decide +kernel
theorem dX12_joinText_75 : decode cX12_joinText 75 = .ok (.aload_n 0, 1) := by decide +kernel
theorem dX12_joinText_76 : decode cX12_joinText 76 = .ok (.iload 4, 2) := by decide +kernel
theorem dX12_joinText_78 : decode cX12_joinText 78 = .ok (.invokevirtual 337, 3) := by decide +kernel
theorem dX12_joinText_81 : decode cX12_joinText 81 = .ok (.return_, 1) := by decide +kernel
theorem dX12_buyText_0 : decode cX12_buyText 0 = .ok (.aload_n 0, 1) := by decide +kernel
theorem dX12_buyText_1 : decode cX12_buyText 1 = .ok (.aload_n 0, 1) := by decide +kernel
theorem dX12_buyText_2 : decode cX12_buyText 2 = .ok (.invokevirtual 328, 3) := by decide +kernel
theorem dX12_buyText_5 : decode cX12_buyText 5 = .ok (.invokevirtual 232, 3) := by decide +kernel
theorem dX12_buyText_8 : decode cX12_buyText 8 = .ok (.istore_n 1, 1) := by decide +kernel
theorem dX12_buyText_9 : decode cX12_buyText 9 = .ok (.aload_n 0, 1) := by decide +kernel
theorem dX12_buyText_10 : decode cX12_buyText 10 = .ok (.iconst 0, 1) := by decide +kernel
theorem dX12_buyText_11 : decode cX12_buyText 11 = .ok (.iconst 4, 1) := by decide +kernel
theorem dX12_buyText_12 : decode cX12_buyText 12 = .ok (.invokevirtual 235, 3) := by decide +kernel
theorem dX12_buyText_15 : decode cX12_buyText 15 = .ok (.istore_n 2, 1) := by decide +kernel
theorem dX12_buyText_16 : decode cX12_buyText 16 = .ok (.aload_n 0, 1) := by decide +kernel
theorem dX12_buyText_17 : decode cX12_buyText 17 = .ok (.invokevirtual 252, 3) := by decide +kernel
theorem dX12_buyText_20 : decode cX12_buyText 20 = .ok (.aload_n 0, 1) := by decide +kernel
theorem dX12_buyText_21 : decode cX12_buyText 21 = .ok (.iconst 1, 1) := by decide +kernel
theorem dX12_buyText_22 : decode cX12_buyText 22 = .ok (.bipush 6, 2) := by decide +kernel
theorem dX12_buyText_24 : decode cX12_buyText 24 = .ok (.invokevirtual 235, 3) := by decide +kernel
theorem dX12_buyText_27 : decode cX12_buyText 27 = .ok (.imul, 1) := by decide +kernel
theorem dX12_buyText_28 : decode cX12_buyText 28 = .ok (.istore_n 3, 1) := by decide +kernel
theorem dX12_buyText_29 : decode cX12_buyText 29 = .ok (.aload_n 0, 1) := by decide +kernel
theorem dX12_buyText_30 : decode cX12_buyText 30 = .ok (.invokevirtual 331, 3) := by decide +kernel
theorem dX12_buyText_33 : decode cX12_buyText 33 = .ok (.ifCond .eq 69, 3) := by decide +kernel
theorem dX12_buyText_36 : decode cX12_buyText 36 = .ok (.iload_n 1, 1) := by decide +kernel
theorem dX12_buyText_37 : decode cX12_buyText 37 = .ok (.iconst (-1), 1) := by decide +kernel
theorem dX12_buyText_38 : decode cX12_buyText 38 = .ok (.if_icmp .eq 37, 3) := by decide +kernel
theorem dX12_buyText_41 : decode cX12_buyText 41 = .ok (.iload_n 2, 1) := by decide +kernel
theorem dX12_buyText_42 : decode cX12_buyText 42 = .ok (.aload_n 0, 1) := by decide +kernel
theorem dX12_buyText_43 : decode cX12_buyText 43 = .ok (.getfield 7, 3) := by decide +kernel
theorem dX12_buyText_46 : decode cX12_buyText 46 = .ok (.bipush 7, 2) := by decide +kernel
theorem dX12_buyText_48 : decode cX12_buyText 48 = .ok (.iaload, 1) := by decide +kernel
theorem dX12_buyText_49 : decode cX12_buyText 49 = .ok (.if_icmp .ge 26, 3) := by decide +kernel
theorem dX12_buyText_52 : decode cX12_buyText 52 = .ok (.aload_n 0, 1) := by decide +kernel
theorem dX12_buyText_53 : decode cX12_buyText 53 = .ok (.iload_n 2, 1) := by decide +kernel
theorem dX12_buyText_54 : decode cX12_buyText 54 = .ok (.iload_n 3, 1) := by decide +kernel
theorem dX12_buyText_55 : decode cX12_buyText 55 = .ok (.invokevirtual 341, 3) := by decide +kernel
theorem dX12_buyText_58 : decode cX12_buyText 58 = .ok (.ifCond .eq 17, 3) := by decide +kernel
theorem dX12_buyText_61 : decode cX12_buyText 61 = .ok (.aload_n 0, 1) := by decide +kernel
theorem dX12_buyText_62 : decode cX12_buyText 62 = .ok (.iload_n 1, 1) := by decide +kernel
theorem dX12_buyText_63 : decode cX12_buyText 63 = .ok (.iload_n 2, 1) := by decide +kernel
theorem dX12_buyText_64 : decode cX12_buyText 64 = .ok (.iload_n 3, 1) := by decide +kernel
theorem dX12_buyText_65 : decode cX12_buyText 65 = .ok (.invokevirtual 344, 3) := by decide +kernel
theorem dX12_buyText_68 : decode cX12_buyText 68 = .ok (.ifCond .ne 7, 3) := by decide +kernel
theorem dX12_buyText_71 : decode cX12_buyText 71 = .ok (.iconst 1, 1) := by decide +kernel
theorem dX12_buyText_72 : decode cX12_buyText 72 = .ok (.goto 4, 3) := by decide +kernel
theorem dX12_buyText_75 : decode cX12_buyText 75 = .ok (.iconst 0, 1) := by decide +kernel
theorem dX12_buyText_76 : decode cX12_buyText 76 = .ok (.istore 4, 2) := by decide +kernel
theorem dX12_buyText_78 : decode cX12_buyText 78 = .ok (.iload 4, 2) := by decide +kernel
theorem dX12_buyText_80 : decode cX12_buyText 80 = .ok (.ifCond .eq 13, 3) := by decide +kernel
theorem dX12_buyText_83 : decode cX12_buyText 83 = .ok (.aload_n 0, 1) := by decide +kernel
theorem dX12_buyText_84 : decode cX12_buyText 84 = .ok (.iload_n 1, 1) := by decide +kernel
theorem dX12_buyText_85 : decode cX12_buyText 85 = .ok (.iload_n 2, 1) := by decide +kernel
theorem dX12_buyText_86 : decode cX12_buyText 86 = .ok (.iload_n 3, 1) := by decide +kernel
theorem dX12_buyText_87 : decode cX12_buyText 87 = .ok (.invokevirtual 347, 3) := by decide +kernel
theorem dX12_buyText_90 : decode cX12_buyText 90 = .ok (.goto 4, 3) := by decide +kernel
theorem dX12_buyText_93 : decode cX12_buyText 93 = .ok (.iconst 0, 1) := by decide +kernel
theorem dX12_buyText_94 : decode cX12_buyText 94 = .ok (.istore 5, 2) := by decide +kernel
theorem dX12_buyText_96 : decode cX12_buyText 96 = .ok (.aload_n 0, 1) := by decide +kernel
theorem dX12_buyText_97 : decode cX12_buyText 97 = .ok (.iload 4, 2) := by decide +kernel
theorem dX12_buyText_99 : decode cX12_buyText 99 = .ok (.invokevirtual 337, 3) := by decide +kernel
theorem dX12_buyText_102 : decode cX12_buyText 102 = .ok (.return_, 1) := by decide +kernel
theorem dX12_leaveText_0 : decode cX12_leaveText 0 = .ok (.aload_n 0, 1) := by decide +kernel
theorem dX12_leaveText_1 : decode cX12_leaveText 1 = .ok (.aload_n 0, 1) := by decide +kernel
theorem dX12_leaveText_2 : decode cX12_leaveText 2 = .ok (.invokevirtual 328, 3) := by decide +kernel
theorem dX12_leaveText_5 : decode cX12_leaveText 5 = .ok (.invokevirtual 232, 3) := by decide +kernel
theorem dX12_leaveText_8 : decode cX12_leaveText 8 = .ok (.istore_n 1, 1) := by decide +kernel
theorem dX12_leaveText_9 : decode cX12_leaveText 9 = .ok (.aload_n 0, 1) := by decide +kernel
theorem dX12_leaveText_10 : decode cX12_leaveText 10 = .ok (.invokevirtual 331, 3) := by decide +kernel
theorem dX12_leaveText_13 : decode cX12_leaveText 13 = .ok (.ifCond .eq 41, 3) := by decide +kernel
theorem dX12_leaveText_16 : decode cX12_leaveText 16 = .ok (.iload_n 1, 1) := by decide +kernel
theorem dX12_leaveText_17 : decode cX12_leaveText 17 = .ok (.iconst (-1), 1) := by decide +kernel
theorem dX12_leaveText_18 : decode cX12_leaveText 18 = .ok (.if_icmp .eq 15, 3) := by decide +kernel
theorem dX12_leaveText_21 : decode cX12_leaveText 21 = .ok (.aload_n 0, 1) := by decide +kernel
theorem dX12_leaveText_22 : decode cX12_leaveText 22 = .ok (.iload_n 1, 1) := by decide +kernel
theorem dX12_leaveText_23 : decode cX12_leaveText 23 = .ok (.invokevirtual 79, 3) := by decide +kernel
theorem dX12_leaveText_26 : decode cX12_leaveText 26 = .ok (.ifCond .eq 7, 3) := by decide +kernel
theorem dX12_leaveText_29 : decode cX12_leaveText 29 = .ok (.iconst 1, 1) := by decide +kernel
theorem dX12_leaveText_30 : decode cX12_leaveText 30 = .ok (.goto 4, 3) := by decide +kernel
theorem dX12_leaveText_33 : decode cX12_leaveText 33 = .ok (.iconst 0, 1) := by decide +kernel
theorem dX12_leaveText_34 : decode cX12_leaveText 34 = .ok (.istore_n 2, 1) := by decide +kernel
theorem dX12_leaveText_35 : decode cX12_leaveText 35 = .ok (.iload_n 2, 1) := by decide +kernel
theorem dX12_leaveText_36 : decode cX12_leaveText 36 = .ok (.ifCond .eq 11, 3) := by decide +kernel
theorem dX12_leaveText_39 : decode cX12_leaveText 39 = .ok (.aload_n 0, 1) := by decide +kernel
theorem dX12_leaveText_40 : decode cX12_leaveText 40 = .ok (.iload_n 1, 1) := by decide +kernel
theorem dX12_leaveText_41 : decode cX12_leaveText 41 = .ok (.invokevirtual 350, 3) := by decide +kernel
theorem dX12_leaveText_44 : decode cX12_leaveText 44 = .ok (.goto 4, 3) := by decide +kernel
theorem dX12_leaveText_47 : decode cX12_leaveText 47 = .ok (.iconst (-1), 1) := by decide +kernel
theorem dX12_leaveText_48 : decode cX12_leaveText 48 = .ok (.istore_n 3, 1) := by decide +kernel
theorem dX12_leaveText_49 : decode cX12_leaveText 49 = .ok (.aload_n 0, 1) := by decide +kernel
theorem dX12_leaveText_50 : decode cX12_leaveText 50 = .ok (.iload_n 2, 1) := by decide +kernel
theorem dX12_leaveText_51 : decode cX12_leaveText 51 = .ok (.invokevirtual 337, 3) := by decide +kernel
theorem dX12_leaveText_54 : decode cX12_leaveText 54 = .ok (.return_, 1) := by decide +kernel
theorem dX12_pairText_0 : decode cX12_pairText 0 = .ok (.aload_n 0, 1) := by decide +kernel
theorem dX12_pairText_1 : decode cX12_pairText 1 = .ok (.invokevirtual 328, 3) := by decide +kernel
theorem dX12_pairText_4 : decode cX12_pairText 4 = .ok (.istore_n 2, 1) := by decide +kernel
theorem dX12_pairText_5 : decode cX12_pairText 5 = .ok (.aload_n 0, 1) := by decide +kernel
theorem dX12_pairText_6 : decode cX12_pairText 6 = .ok (.iload_n 2, 1) := by decide +kernel
theorem dX12_pairText_7 : decode cX12_pairText 7 = .ok (.invokevirtual 232, 3) := by decide +kernel
theorem dX12_pairText_10 : decode cX12_pairText 10 = .ok (.istore_n 3, 1) := by decide +kernel
theorem dX12_pairText_11 : decode cX12_pairText 11 = .ok (.aload_n 0, 1) := by decide +kernel
theorem dX12_pairText_12 : decode cX12_pairText 12 = .ok (.aload_n 0, 1) := by decide +kernel
theorem dX12_pairText_13 : decode cX12_pairText 13 = .ok (.iload_n 2, 1) := by decide +kernel
theorem dX12_pairText_14 : decode cX12_pairText 14 = .ok (.invokevirtual 353, 3) := by decide +kernel
theorem dX12_pairText_17 : decode cX12_pairText 17 = .ok (.invokevirtual 232, 3) := by decide +kernel
theorem dX12_pairText_20 : decode cX12_pairText 20 = .ok (.istore 4, 2) := by decide +kernel
theorem dX12_pairText_22 : decode cX12_pairText 22 = .ok (.iload_n 1, 1) := by decide +kernel
theorem dX12_pairText_23 : decode cX12_pairText 23 = .ok (.ifCond .eq 13, 3) := by decide +kernel
theorem dX12_pairText_26 : decode cX12_pairText 26 = .ok (.aload_n 0, 1) := by decide +kernel
theorem dX12_pairText_27 : decode cX12_pairText 27 = .ok (.iconst 1, 1) := by decide +kernel
theorem dX12_pairText_28 : decode cX12_pairText 28 = .ok (.bipush 50, 2) := by decide +kernel
theorem dX12_pairText_30 : decode cX12_pairText 30 = .ok (.invokevirtual 235, 3) := by decide +kernel
theorem dX12_pairText_33 : decode cX12_pairText 33 = .ok (.goto 4, 3) := by decide +kernel
theorem dX12_pairText_36 : decode cX12_pairText 36 = .ok (.iconst 0, 1) := by decide +kernel
theorem dX12_pairText_37 : decode cX12_pairText 37 = .ok (.istore 5, 2) := by decide +kernel
theorem dX12_pairText_39 : decode cX12_pairText 39 = .ok (.aload_n 0, 1) := by decide +kernel
theorem dX12_pairText_40 : decode cX12_pairText 40 = .ok (.invokevirtual 331, 3) := by decide +kernel
theorem dX12_pairText_43 : decode cX12_pairText 43 = .ok (.ifCond .ne 4, 3) := by decide +kernel
theorem dX12_pairText_46 : decode cX12_pairText 46 = .ok (.return_, 1) := by decide +kernel
theorem dX12_pairText_47 : decode cX12_pairText 47 = .ok (.iload_n 3, 1) := by decide +kernel
theorem dX12_pairText_48 : decode cX12_pairText 48 = .ok (.iconst (-1), 1) := by decide +kernel
theorem dX12_pairText_49 : decode cX12_pairText 49 = .ok (.if_icmp .eq 39, 3) := by decide +kernel
theorem dX12_pairText_52 : decode cX12_pairText 52 = .ok (.iload 4, 2) := by decide +kernel
theorem dX12_pairText_54 : decode cX12_pairText 54 = .ok (.iconst (-1), 1) := by decide +kernel
theorem dX12_pairText_55 : decode cX12_pairText 55 = .ok (.if_icmp .eq 33, 3) := by decide +kernel
theorem dX12_pairText_58 : decode cX12_pairText 58 = .ok (.iload_n 1, 1) := by decide +kernel
theorem dX12_pairText_59 : decode cX12_pairText 59 = .ok (.ifCond .eq 15, 3) := by decide +kernel
theorem dX12_pairText_62 : decode cX12_pairText 62 = .ok (.aload_n 0, 1) := by decide +kernel
theorem dX12_pairText_63 : decode cX12_pairText 63 = .ok (.iload_n 3, 1) := by decide +kernel
theorem dX12_pairText_64 : decode cX12_pairText 64 = .ok (.iload 4, 2) := by decide +kernel
theorem dX12_pairText_66 : decode cX12_pairText 66 = .ok (.iload 5, 2) := by decide +kernel
theorem dX12_pairText_68 : decode cX12_pairText 68 = .ok (.invokevirtual 356, 3) := by decide +kernel
theorem dX12_pairText_71 : decode cX12_pairText 71 = .ok (.goto 10, 3) := by decide +kernel
theorem dX12_pairText_74 : decode cX12_pairText 74 = .ok (.aload_n 0, 1) := by decide +kernel
theorem dX12_pairText_75 : decode cX12_pairText 75 = .ok (.iload_n 3, 1) := by decide +kernel
theorem dX12_pairText_76 : decode cX12_pairText 76 = .ok (.iload 4, 2) := by decide +kernel
theorem dX12_pairText_78 : decode cX12_pairText 78 = .ok (.invokevirtual 359, 3) := by decide +kernel
theorem dX12_pairText_81 : decode cX12_pairText 81 = .ok (.ifCond .ne 7, 3) := by decide +kernel
theorem dX12_pairText_84 : decode cX12_pairText 84 = .ok (.iconst 1, 1) := by decide +kernel
theorem dX12_pairText_85 : decode cX12_pairText 85 = .ok (.goto 4, 3) := by decide +kernel
theorem dX12_pairText_88 : decode cX12_pairText 88 = .ok (.iconst 0, 1) := by decide +kernel
theorem dX12_pairText_89 : decode cX12_pairText 89 = .ok (.istore 6, 2) := by decide +kernel
theorem dX12_pairText_91 : decode cX12_pairText 91 = .ok (.iload 6, 2) := by decide +kernel
theorem dX12_pairText_93 : decode cX12_pairText 93 = .ok (.ifCond .ne 7, 3) := by decide +kernel
theorem dX12_pairText_96 : decode cX12_pairText 96 = .ok (.iconst 0, 1) := by decide +kernel
theorem dX12_pairText_97 : decode cX12_pairText 97 = .ok (.goto 26, 3) := by decide +kernel
theorem dX12_pairText_100 : decode cX12_pairText 100 = .ok (.iload_n 1, 1) := by decide +kernel
theorem dX12_pairText_101 : decode cX12_pairText 101 = .ok (.ifCond .eq 15, 3) := by decide +kernel
theorem dX12_pairText_104 : decode cX12_pairText 104 = .ok (.aload_n 0, 1) := by decide +kernel
theorem dX12_pairText_105 : decode cX12_pairText 105 = .ok (.iload_n 3, 1) := by decide +kernel
theorem dX12_pairText_106 : decode cX12_pairText 106 = .ok (.iload 4, 2) := by decide +kernel
theorem dX12_pairText_108 : decode cX12_pairText 108 = .ok (.iload 5, 2) := by decide +kernel
theorem dX12_pairText_110 : decode cX12_pairText 110 = .ok (.invokevirtual 362, 3) := by decide +kernel
theorem dX12_pairText_113 : decode cX12_pairText 113 = .ok (.goto 10, 3) := by decide +kernel
theorem dX12_pairText_116 : decode cX12_pairText 116 = .ok (.aload_n 0, 1) := by decide +kernel
theorem dX12_pairText_117 : decode cX12_pairText 117 = .ok (.iload_n 3, 1) := by decide +kernel
theorem dX12_pairText_118 : decode cX12_pairText 118 = .ok (.iload 4, 2) := by decide +kernel
theorem dX12_pairText_120 : decode cX12_pairText 120 = .ok (.invokevirtual 365, 3) := by decide +kernel
theorem dX12_pairText_123 : decode cX12_pairText 123 = .ok (.istore 7, 2) := by decide +kernel
theorem dX12_pairText_125 : decode cX12_pairText 125 = .ok (.aload_n 0, 1) := by decide +kernel
theorem dX12_pairText_126 : decode cX12_pairText 126 = .ok (.iload 6, 2) := by decide +kernel
theorem dX12_pairText_128 : decode cX12_pairText 128 = .ok (.invokevirtual 337, 3) := by decide +kernel
theorem dX12_pairText_131 : decode cX12_pairText 131 = .ok (.return_, 1) := by decide +kernel
theorem dX12_wholeText_0 : decode cX12_wholeText 0 = .ok (.iload_n 1, 1) := by decide +kernel
theorem dX12_wholeText_1 : decode cX12_wholeText 1 = .ok (.ifCond .eq 13, 3) := by decide +kernel
theorem dX12_wholeText_4 : decode cX12_wholeText 4 = .ok (.aload_n 0, 1) := by decide +kernel
theorem dX12_wholeText_5 : decode cX12_wholeText 5 = .ok (.iconst 0, 1) := by decide +kernel
theorem dX12_wholeText_6 : decode cX12_wholeText 6 = .ok (.bipush 20, 2) := by decide +kernel
theorem dX12_wholeText_8 : decode cX12_wholeText 8 = .ok (.invokevirtual 235, 3) := by decide +kernel
theorem dX12_wholeText_11 : decode cX12_wholeText 11 = .ok (.goto 10, 3) := by decide +kernel
theorem dX12_wholeText_14 : decode cX12_wholeText 14 = .ok (.aload_n 0, 1) := by decide +kernel
theorem dX12_wholeText_15 : decode cX12_wholeText 15 = .ok (.iconst 1, 1) := by decide +kernel
theorem dX12_wholeText_16 : decode cX12_wholeText 16 = .ok (.bipush 30, 2) := by decide +kernel
theorem dX12_wholeText_18 : decode cX12_wholeText 18 = .ok (.invokevirtual 235, 3) := by decide +kernel
theorem dX12_wholeText_21 : decode cX12_wholeText 21 = .ok (.istore_n 2, 1) := by decide +kernel
theorem dX12_wholeText_22 : decode cX12_wholeText 22 = .ok (.aload_n 0, 1) := by decide +kernel
theorem dX12_wholeText_23 : decode cX12_wholeText 23 = .ok (.invokevirtual 331, 3) := by decide +kernel
theorem dX12_wholeText_26 : decode cX12_wholeText 26 = .ok (.ifCond .eq 60, 3) := by decide +kernel
theorem dX12_wholeText_29 : decode cX12_wholeText 29 = .ok (.iload_n 1, 1) := by decide +kernel
theorem dX12_wholeText_30 : decode cX12_wholeText 30 = .ok (.ifCond .ne 18, 3) := by decide +kernel
theorem dX12_wholeText_33 : decode cX12_wholeText 33 = .ok (.aload_n 0, 1) := by decide +kernel
theorem dX12_wholeText_34 : decode cX12_wholeText 34 = .ok (.getfield 7, 3) := by decide +kernel
theorem dX12_wholeText_37 : decode cX12_wholeText 37 = .ok (.bipush 6, 2) := by decide +kernel
theorem dX12_wholeText_39 : decode cX12_wholeText 39 = .ok (.iaload, 1) := by decide +kernel
theorem dX12_wholeText_40 : decode cX12_wholeText 40 = .ok (.iload_n 2, 1) := by decide +kernel
theorem dX12_wholeText_41 : decode cX12_wholeText 41 = .ok (.iadd, 1) := by decide +kernel
theorem dX12_wholeText_42 : decode cX12_wholeText 42 = .ok (.sipush 9999, 3) := by decide +kernel
theorem dX12_wholeText_45 : decode cX12_wholeText 45 = .ok (.if_icmp .gt 7, 3) := by decide +kernel
theorem dX12_wholeText_48 : decode cX12_wholeText 48 = .ok (.iconst 1, 1) := by decide +kernel
theorem dX12_wholeText_49 : decode cX12_wholeText 49 = .ok (.goto 4, 3) := by decide +kernel
theorem dX12_wholeText_52 : decode cX12_wholeText 52 = .ok (.iconst 0, 1) := by decide +kernel
theorem dX12_wholeText_53 : decode cX12_wholeText 53 = .ok (.istore_n 3, 1) := by decide +kernel
theorem dX12_wholeText_54 : decode cX12_wholeText 54 = .ok (.iload_n 3, 1) := by decide +kernel
theorem dX12_wholeText_55 : decode cX12_wholeText 55 = .ok (.ifCond .ne 7, 3) := by decide +kernel
theorem dX12_wholeText_58 : decode cX12_wholeText 58 = .ok (.iconst 0, 1) := by decide +kernel
theorem dX12_wholeText_59 : decode cX12_wholeText 59 = .ok (.goto 20, 3) := by decide +kernel
theorem dX12_wholeText_62 : decode cX12_wholeText 62 = .ok (.iload_n 1, 1) := by decide +kernel
theorem dX12_wholeText_63 : decode cX12_wholeText 63 = .ok (.ifCond .eq 11, 3) := by decide +kernel
theorem dX12_wholeText_66 : decode cX12_wholeText 66 = .ok (.aload_n 0, 1) := by decide +kernel
theorem dX12_wholeText_67 : decode cX12_wholeText 67 = .ok (.iload_n 2, 1) := by decide +kernel
theorem dX12_wholeText_68 : decode cX12_wholeText 68 = .ok (.invokevirtual 368, 3) := by decide +kernel
theorem dX12_wholeText_71 : decode cX12_wholeText 71 = .ok (.goto 8, 3) := by decide +kernel
theorem dX12_wholeText_74 : decode cX12_wholeText 74 = .ok (.aload_n 0, 1) := by decide +kernel
theorem dX12_wholeText_75 : decode cX12_wholeText 75 = .ok (.iload_n 2, 1) := by decide +kernel
theorem dX12_wholeText_76 : decode cX12_wholeText 76 = .ok (.invokevirtual 371, 3) := by decide +kernel
theorem dX12_wholeText_79 : decode cX12_wholeText 79 = .ok (.istore 4, 2) := by decide +kernel
theorem dX12_wholeText_81 : decode cX12_wholeText 81 = .ok (.aload_n 0, 1) := by decide +kernel
theorem dX12_wholeText_82 : decode cX12_wholeText 82 = .ok (.iload_n 3, 1) := by decide +kernel
theorem dX12_wholeText_83 : decode cX12_wholeText 83 = .ok (.invokevirtual 337, 3) := by decide +kernel
theorem dX12_wholeText_86 : decode cX12_wholeText 86 = .ok (.return_, 1) := by decide +kernel
theorem dX12_againOrder_0 : decode cX12_againOrder 0 = .ok (.aload_n 0, 1) := by decide +kernel
theorem dX12_againOrder_1 : decode cX12_againOrder 1 = .ok (.iconst 1, 1) := by decide +kernel
theorem dX12_againOrder_2 : decode cX12_againOrder 2 = .ok (.bipush 20, 2) := by decide +kernel
theorem dX12_againOrder_4 : decode cX12_againOrder 4 = .ok (.invokevirtual 235, 3) := by decide +kernel
theorem dX12_againOrder_7 : decode cX12_againOrder 7 = .ok (.istore_n 1, 1) := by decide +kernel
theorem dX12_againOrder_8 : decode cX12_againOrder 8 = .ok (.aload_n 0, 1) := by decide +kernel
theorem dX12_againOrder_9 : decode cX12_againOrder 9 = .ok (.aload_n 0, 1) := by decide +kernel
theorem dX12_againOrder_10 : decode cX12_againOrder 10 = .ok (.bipush 40, 2) := by decide +kernel
theorem dX12_againOrder_12 : decode cX12_againOrder 12 = .ok (.invokevirtual 218, 3) := by decide +kernel
theorem dX12_againOrder_15 : decode cX12_againOrder 15 = .ok (.iconst 1, 1) := by decide +kernel
theorem dX12_againOrder_16 : decode cX12_againOrder 16 = .ok (.invokevirtual 221, 3) := by decide +kernel
theorem dX12_againOrder_19 : decode cX12_againOrder 19 = .ok (.aload_n 0, 1) := by decide +kernel
theorem dX12_againOrder_20 : decode cX12_againOrder 20 = .ok (.aload_n 0, 1) := by decide +kernel
theorem dX12_againOrder_21 : decode cX12_againOrder 21 = .ok (.bipush 40, 2) := by decide +kernel
theorem dX12_againOrder_23 : decode cX12_againOrder 23 = .ok (.invokevirtual 218, 3) := by decide +kernel
theorem dX12_againOrder_26 : decode cX12_againOrder 26 = .ok (.ifCond .eq 11, 3) := by decide +kernel
theorem dX12_againOrder_29 : decode cX12_againOrder 29 = .ok (.aload_n 0, 1) := by decide +kernel
theorem dX12_againOrder_30 : decode cX12_againOrder 30 = .ok (.getfield 374, 3) := by decide +kernel
theorem dX12_againOrder_33 : decode cX12_againOrder 33 = .ok (.iconst 2, 1) := by decide +kernel
theorem dX12_againOrder_34 : decode cX12_againOrder 34 = .ok (.if_icmp .ge 7, 3) := by decide +kernel
theorem dX12_againOrder_37 : decode cX12_againOrder 37 = .ok (.iconst 1, 1) := by decide +kernel
theorem dX12_againOrder_38 : decode cX12_againOrder 38 = .ok (.goto 4, 3) := by decide +kernel
theorem dX12_againOrder_41 : decode cX12_againOrder 41 = .ok (.iconst 0, 1) := by decide +kernel
theorem dX12_againOrder_42 : decode cX12_againOrder 42 = .ok (.iconst 5, 1) := by decide +kernel
theorem dX12_againOrder_43 : decode cX12_againOrder 43 = .ok (.invokevirtual 221, 3) := by decide +kernel
theorem dX12_againOrder_46 : decode cX12_againOrder 46 = .ok (.aload_n 0, 1) := by decide +kernel
theorem dX12_againOrder_47 : decode cX12_againOrder 47 = .ok (.invokevirtual 225, 3) := by decide +kernel
theorem dX12_againOrder_50 : decode cX12_againOrder 50 = .ok (.aload_n 0, 1) := by decide +kernel
theorem dX12_againOrder_51 : decode cX12_againOrder 51 = .ok (.getfield 209, 3) := by decide +kernel
theorem dX12_againOrder_54 : decode cX12_againOrder 54 = .ok (.ifCond .ne 40, 3) := by decide +kernel
theorem dX12_againOrder_57 : decode cX12_againOrder 57 = .ok (.aload_n 0, 1) := by decide +kernel
theorem dX12_againOrder_58 : decode cX12_againOrder 58 = .ok (.dup, 1) := by decide +kernel
theorem dX12_againOrder_59 : decode cX12_againOrder 59 = .ok (.getfield 374, 3) := by decide +kernel
theorem dX12_againOrder_62 : decode cX12_againOrder 62 = .ok (.iconst 1, 1) := by decide +kernel
theorem dX12_againOrder_63 : decode cX12_againOrder 63 = .ok (.iadd, 1) := by decide +kernel
theorem dX12_againOrder_64 : decode cX12_againOrder 64 = .ok (.putfield 374, 3) := by decide +kernel
theorem dX12_againOrder_67 : decode cX12_againOrder 67 = .ok (.aload_n 0, 1) := by decide +kernel
theorem dX12_againOrder_68 : decode cX12_againOrder 68 = .ok (.getfield 39, 3) := by decide +kernel
theorem dX12_againOrder_71 : decode cX12_againOrder 71 = .ok (.aload_n 0, 1) := by decide +kernel
theorem dX12_againOrder_72 : decode cX12_againOrder 72 = .ok (.getfield 374, 3) := by decide +kernel
theorem dX12_againOrder_75 : decode cX12_againOrder 75 = .ok (.iconst 1, 1) := by decide +kernel
theorem dX12_againOrder_76 : decode cX12_againOrder 76 = .ok (.isub, 1) := by decide +kernel
theorem dX12_againOrder_77 : decode cX12_againOrder 77 = .ok (.aload_n 0, 1) := by decide +kernel
theorem dX12_againOrder_78 : decode cX12_againOrder 78 = .ok (.getfield 185, 3) := by decide +kernel
theorem dX12_againOrder_81 : decode cX12_againOrder 81 = .ok (.iastore, 1) := by decide +kernel
theorem dX12_againOrder_82 : decode cX12_againOrder 82 = .ok (.aload_n 0, 1) := by decide +kernel
theorem dX12_againOrder_83 : decode cX12_againOrder 83 = .ok (.getfield 42, 3) := by decide +kernel
theorem dX12_againOrder_86 : decode cX12_againOrder 86 = .ok (.aload_n 0, 1) := by decide +kernel
theorem dX12_againOrder_87 : decode cX12_againOrder 87 = .ok (.getfield 374, 3) := by decide +kernel
theorem dX12_againOrder_90 : decode cX12_againOrder 90 = .ok (.iconst 1, 1) := by decide +kernel
theorem dX12_againOrder_91 : decode cX12_againOrder 91 = .ok (.isub, 1) := by decide +kernel
theorem dX12_againOrder_92 : decode cX12_againOrder 92 = .ok (.iload_n 1, 1) := by decide +kernel
theorem dX12_againOrder_93 : decode cX12_againOrder 93 = .ok (.iastore, 1) := by decide +kernel
theorem dX12_againOrder_94 : decode cX12_againOrder 94 = .ok (.return_, 1) := by decide +kernel
theorem dX12_closes_0 : decode cX12_closes 0 = .ok (.aload_n 0, 1) := by decide +kernel
theorem dX12_closes_1 : decode cX12_closes 1 = .ok (.aload_n 0, 1) := by decide +kernel
theorem dX12_closes_2 : decode cX12_closes 2 = .ok (.getfield 374, 3) := by decide +kernel
theorem dX12_closes_5 : decode cX12_closes 5 = .ok (.ifCond .le 7, 3) := by decide +kernel
theorem dX12_closes_8 : decode cX12_closes 8 = .ok (.iconst 1, 1) := by decide +kernel
theorem dX12_closes_9 : decode cX12_closes 9 = .ok (.goto 4, 3) := by decide +kernel
theorem dX12_closes_12 : decode cX12_closes 12 = .ok (.iconst 0, 1) := by decide +kernel
theorem dX12_closes_13 : decode cX12_closes 13 = .ok (.iconst 1, 1) := by decide +kernel
theorem dX12_closes_14 : decode cX12_closes 14 = .ok (.invokevirtual 221, 3) := by decide +kernel
theorem dX12_closes_17 : decode cX12_closes 17 = .ok (.aload_n 0, 1) := by decide +kernel
theorem dX12_closes_18 : decode cX12_closes 18 = .ok (.getfield 209, 3) := by decide +kernel
theorem dX12_closes_21 : decode cX12_closes 21 = .ok (.ifCond .eq 4, 3) := by decide +kernel
theorem dX12_closes_24 : decode cX12_closes 24 = .ok (.return_, 1) := by decide +kernel
theorem dX12_closes_25 : decode cX12_closes 25 = .ok (.aload_n 0, 1) := by decide +kernel
theorem dX12_closes_26 : decode cX12_closes 26 = .ok (.getfield 42, 3) := by decide +kernel
theorem dX12_closes_29 : decode cX12_closes 29 = .ok (.aload_n 0, 1) := by decide +kernel
theorem dX12_closes_30 : decode cX12_closes 30 = .ok (.getfield 374, 3) := by decide +kernel
theorem dX12_closes_33 : decode cX12_closes 33 = .ok (.iconst 1, 1) := by decide +kernel
theorem dX12_closes_34 : decode cX12_closes 34 = .ok (.isub, 1) := by decide +kernel
theorem dX12_closes_35 : decode cX12_closes 35 = .ok (.dup2, 1) := by decide +kernel
theorem dX12_closes_36 : decode cX12_closes 36 = .ok (.iaload, 1) := by decide +kernel
theorem dX12_closes_37 : decode cX12_closes 37 = .ok (.iconst 1, 1) := by decide +kernel
theorem dX12_closes_38 : decode cX12_closes 38 = .ok (.isub, 1) := by decide +kernel
theorem dX12_closes_39 : decode cX12_closes 39 = .ok (.iastore, 1) := by decide +kernel
theorem dX12_closes_40 : decode cX12_closes 40 = .ok (.aload_n 0, 1) := by decide +kernel
theorem dX12_closes_41 : decode cX12_closes 41 = .ok (.getfield 314, 3) := by decide +kernel
theorem dX12_closes_44 : decode cX12_closes 44 = .ok (.ifCond .eq 37, 3) := by decide +kernel
theorem dX12_closes_47 : decode cX12_closes 47 = .ok (.aload_n 0, 1) := by decide +kernel
theorem dX12_closes_48 : decode cX12_closes 48 = .ok (.getfield 42, 3) := by decide +kernel
theorem dX12_closes_51 : decode cX12_closes 51 = .ok (.aload_n 0, 1) := by decide +kernel
theorem dX12_closes_52 : decode cX12_closes 52 = .ok (.getfield 374, 3) := by decide +kernel
theorem dX12_closes_55 : decode cX12_closes 55 = .ok (.iconst 1, 1) := by decide +kernel
theorem dX12_closes_56 : decode cX12_closes 56 = .ok (.isub, 1) := by decide +kernel
theorem dX12_closes_57 : decode cX12_closes 57 = .ok (.iaload, 1) := by decide +kernel
theorem dX12_closes_58 : decode cX12_closes 58 = .ok (.ifCond .le 23, 3) := by decide +kernel
theorem dX12_closes_61 : decode cX12_closes 61 = .ok (.aload_n 0, 1) := by decide +kernel
theorem dX12_closes_62 : decode cX12_closes 62 = .ok (.aload_n 0, 1) := by decide +kernel
theorem dX12_closes_63 : decode cX12_closes 63 = .ok (.getfield 39, 3) := by decide +kernel
theorem dX12_closes_66 : decode cX12_closes 66 = .ok (.aload_n 0, 1) := by decide +kernel
theorem dX12_closes_67 : decode cX12_closes 67 = .ok (.getfield 374, 3) := by decide +kernel
theorem dX12_closes_70 : decode cX12_closes 70 = .ok (.iconst 1, 1) := by decide +kernel
theorem dX12_closes_71 : decode cX12_closes 71 = .ok (.isub, 1) := by decide +kernel
theorem dX12_closes_72 : decode cX12_closes 72 = .ok (.iaload, 1) := by decide +kernel
theorem dX12_closes_73 : decode cX12_closes 73 = .ok (.putfield 179, 3) := by decide +kernel
theorem dX12_closes_76 : decode cX12_closes 76 = .ok (.aload_n 0, 1) := by decide +kernel
theorem dX12_closes_77 : decode cX12_closes 77 = .ok (.invokevirtual 215, 3) := by decide +kernel
theorem dX12_closes_80 : decode cX12_closes 80 = .ok (.return_, 1) := by decide +kernel
theorem dX12_closes_81 : decode cX12_closes 81 = .ok (.aload_n 0, 1) := by decide +kernel
theorem dX12_closes_82 : decode cX12_closes 82 = .ok (.dup, 1) := by decide +kernel
theorem dX12_closes_83 : decode cX12_closes 83 = .ok (.getfield 374, 3) := by decide +kernel
theorem dX12_closes_86 : decode cX12_closes 86 = .ok (.iconst 1, 1) := by decide +kernel
theorem dX12_closes_87 : decode cX12_closes 87 = .ok (.isub, 1) := by decide +kernel
theorem dX12_closes_88 : decode cX12_closes 88 = .ok (.putfield 374, 3) := by decide +kernel
theorem dX12_closes_91 : decode cX12_closes 91 = .ok (.aload_n 0, 1) := by decide +kernel
theorem dX12_closes_92 : decode cX12_closes 92 = .ok (.invokevirtual 225, 3) := by decide +kernel
theorem dX12_closes_95 : decode cX12_closes 95 = .ok (.aload_n 0, 1) := by decide +kernel
theorem dX12_closes_96 : decode cX12_closes 96 = .ok (.bipush 59, 2) := by decide +kernel
theorem dX12_closes_98 : decode cX12_closes 98 = .ok (.invokevirtual 258, 3) := by decide +kernel
theorem dX12_closes_101 : decode cX12_closes 101 = .ok (.return_, 1) := by decide +kernel
theorem dX12_does_0 : decode cX12_does 0 = .ok (.lload_n 1, 1) := by decide +kernel
theorem dX12_does_1 : decode cX12_does 1 = .ok (.ldc2_w 298, 3) := by decide +kernel
theorem dX12_does_4 : decode cX12_does 4 = .ok (.lcmp, 1) := by decide +kernel
theorem dX12_does_5 : decode cX12_does 5 = .ok (.ifCond .ne 10, 3) := by decide +kernel
theorem dX12_does_8 : decode cX12_does 8 = .ok (.aload_n 0, 1) := by decide +kernel
theorem dX12_does_9 : decode cX12_does 9 = .ok (.invokevirtual 377, 3) := by decide +kernel
theorem dX12_does_12 : decode cX12_does 12 = .ok (.goto 86, 3) := by decide +kernel
theorem dX12_does_15 : decode cX12_does 15 = .ok (.lload_n 1, 1) := by decide +kernel
theorem dX12_does_16 : decode cX12_does 16 = .ok (.ldc2_w 300, 3) := by decide +kernel
theorem dX12_does_19 : decode cX12_does 19 = .ok (.lcmp, 1) := by decide +kernel
theorem dX12_does_20 : decode cX12_does 20 = .ok (.ifCond .ne 10, 3) := by decide +kernel
theorem dX12_does_23 : decode cX12_does 23 = .ok (.aload_n 0, 1) := by decide +kernel
theorem dX12_does_24 : decode cX12_does 24 = .ok (.invokevirtual 380, 3) := by decide +kernel
theorem dX12_does_27 : decode cX12_does 27 = .ok (.goto 71, 3) := by decide +kernel
theorem dX12_does_30 : decode cX12_does 30 = .ok (.lload_n 1, 1) := by decide +kernel
theorem dX12_does_31 : decode cX12_does 31 = .ok (.ldc2_w 302, 3) := by decide +kernel
theorem dX12_does_34 : decode cX12_does 34 = .ok (.lcmp, 1) := by decide +kernel
theorem dX12_does_35 : decode cX12_does 35 = .ok (.ifCond .ne 10, 3) := by decide +kernel
theorem dX12_does_38 : decode cX12_does 38 = .ok (.aload_n 0, 1) := by decide +kernel
theorem dX12_does_39 : decode cX12_does 39 = .ok (.invokevirtual 383, 3) := by decide +kernel
theorem dX12_does_42 : decode cX12_does 42 = .ok (.goto 56, 3) := by decide +kernel
theorem dX12_does_45 : decode cX12_does 45 = .ok (.lload_n 1, 1) := by decide +kernel
theorem dX12_does_46 : decode cX12_does 46 = .ok (.ldc2_w 304, 3) := by decide +kernel
theorem dX12_does_49 : decode cX12_does 49 = .ok (.lcmp, 1) := by decide +kernel
theorem dX12_does_50 : decode cX12_does 50 = .ok (.ifCond .eq 11, 3) := by decide +kernel
theorem dX12_does_53 : decode cX12_does 53 = .ok (.lload_n 1, 1) := by decide +kernel
theorem dX12_does_54 : decode cX12_does 54 = .ok (.ldc2_w 306, 3) := by decide +kernel
theorem dX12_does_57 : decode cX12_does 57 = .ok (.lcmp, 1) := by decide +kernel
theorem dX12_does_58 : decode cX12_does 58 = .ok (.ifCond .ne 23, 3) := by decide +kernel
theorem dX12_does_61 : decode cX12_does 61 = .ok (.aload_n 0, 1) := by decide +kernel
theorem dX12_does_62 : decode cX12_does 62 = .ok (.lload_n 1, 1) := by decide +kernel
theorem dX12_does_63 : decode cX12_does 63 = .ok (.ldc2_w 304, 3) := by decide +kernel
theorem dX12_does_66 : decode cX12_does 66 = .ok (.lcmp, 1) := by decide +kernel
theorem dX12_does_67 : decode cX12_does 67 = .ok (.ifCond .ne 7, 3) := by decide +kernel
theorem dX12_does_70 : decode cX12_does 70 = .ok (.iconst 1, 1) := by decide +kernel
theorem dX12_does_71 : decode cX12_does 71 = .ok (.goto 4, 3) := by decide +kernel
theorem dX12_does_74 : decode cX12_does 74 = .ok (.iconst 0, 1) := by decide +kernel
theorem dX12_does_75 : decode cX12_does 75 = .ok (.invokevirtual 386, 3) := by decide +kernel
theorem dX12_does_78 : decode cX12_does 78 = .ok (.goto 20, 3) := by decide +kernel
theorem dX12_does_81 : decode cX12_does 81 = .ok (.aload_n 0, 1) := by decide +kernel
theorem dX12_does_82 : decode cX12_does 82 = .ok (.lload_n 1, 1) := by decide +kernel
theorem dX12_does_83 : decode cX12_does 83 = .ok (.ldc2_w 308, 3) := by decide +kernel
theorem dX12_does_86 : decode cX12_does 86 = .ok (.lcmp, 1) := by decide +kernel
theorem dX12_does_87 : decode cX12_does 87 = .ok (.ifCond .ne 7, 3) := by decide +kernel
theorem dX12_does_90 : decode cX12_does 90 = .ok (.iconst 1, 1) := by decide +kernel
theorem dX12_does_91 : decode cX12_does 91 = .ok (.goto 4, 3) := by decide +kernel
theorem dX12_does_94 : decode cX12_does 94 = .ok (.iconst 0, 1) := by decide +kernel
theorem dX12_does_95 : decode cX12_does 95 = .ok (.invokevirtual 389, 3) := by decide +kernel
theorem dX12_does_98 : decode cX12_does 98 = .ok (.return_, 1) := by decide +kernel
theorem dX12_order_0 : decode cX12_order 0 = .ok (.aload_n 0, 1) := by decide +kernel
theorem dX12_order_1 : decode cX12_order 1 = .ok (.aload_n 0, 1) := by decide +kernel
theorem dX12_order_2 : decode cX12_order 2 = .ok (.invokevirtual 392, 3) := by decide +kernel
theorem dX12_order_5 : decode cX12_order 5 = .ok (.iconst 1, 1) := by decide +kernel
theorem dX12_order_6 : decode cX12_order 6 = .ok (.invokevirtual 221, 3) := by decide +kernel
theorem dX12_order_9 : decode cX12_order 9 = .ok (.aload_n 0, 1) := by decide +kernel
theorem dX12_order_10 : decode cX12_order 10 = .ok (.getfield 314, 3) := by decide +kernel
theorem dX12_order_13 : decode cX12_order 13 = .ok (.ifCond .ne 32, 3) := by decide +kernel
theorem dX12_order_16 : decode cX12_order 16 = .ok (.aload_n 0, 1) := by decide +kernel
theorem dX12_order_17 : decode cX12_order 17 = .ok (.aload_n 0, 1) := by decide +kernel
theorem dX12_order_18 : decode cX12_order 18 = .ok (.getfield 395, 3) := by decide +kernel
theorem dX12_order_21 : decode cX12_order 21 = .ok (.bipush 30, 2) := by decide +kernel
theorem dX12_order_23 : decode cX12_order 23 = .ok (.if_icmp .ge 7, 3) := by decide +kernel
theorem dX12_order_26 : decode cX12_order 26 = .ok (.iconst 1, 1) := by decide +kernel
theorem dX12_order_27 : decode cX12_order 27 = .ok (.goto 4, 3) := by decide +kernel
theorem dX12_order_30 : decode cX12_order 30 = .ok (.iconst 0, 1) := by decide +kernel
theorem dX12_order_31 : decode cX12_order 31 = .ok (.iconst 5, 1) := by decide +kernel
theorem dX12_order_32 : decode cX12_order 32 = .ok (.invokevirtual 221, 3) := by decide +kernel
theorem dX12_order_35 : decode cX12_order 35 = .ok (.aload_n 0, 1) := by decide +kernel
theorem dX12_order_36 : decode cX12_order 36 = .ok (.dup, 1) := by decide +kernel
theorem dX12_order_37 : decode cX12_order 37 = .ok (.getfield 395, 3) := by decide +kernel
theorem dX12_order_40 : decode cX12_order 40 = .ok (.iconst 1, 1) := by decide +kernel
theorem dX12_order_41 : decode cX12_order 41 = .ok (.iadd, 1) := by decide +kernel
theorem dX12_order_42 : decode cX12_order 42 = .ok (.putfield 395, 3) := by decide +kernel
theorem dX12_order_45 : decode cX12_order 45 = .ok (.aload_n 0, 1) := by decide +kernel
theorem dX12_order_46 : decode cX12_order 46 = .ok (.getfield 209, 3) := by decide +kernel
theorem dX12_order_49 : decode cX12_order 49 = .ok (.ifCond .eq 4, 3) := by decide +kernel
theorem dX12_order_52 : decode cX12_order 52 = .ok (.return_, 1) := by decide +kernel
theorem dX12_order_53 : decode cX12_order 53 = .ok (.aload_n 0, 1) := by decide +kernel
theorem dX12_order_54 : decode cX12_order 54 = .ok (.getfield 194, 3) := by decide +kernel
theorem dX12_order_57 : decode cX12_order 57 = .ok (.lstore_n 1, 1) := by decide +kernel
theorem dX12_order_58 : decode cX12_order 58 = .ok (.aload_n 0, 1) := by decide +kernel
theorem dX12_order_59 : decode cX12_order 59 = .ok (.invokevirtual 225, 3) := by decide +kernel
theorem dX12_order_62 : decode cX12_order 62 = .ok (.lload_n 1, 1) := by decide +kernel
theorem dX12_order_63 : decode cX12_order 63 = .ok (.ldc2_w 312, 3) := by decide +kernel
theorem dX12_order_66 : decode cX12_order 66 = .ok (.lcmp, 1) := by decide +kernel
theorem dX12_order_67 : decode cX12_order 67 = .ok (.ifCond .ne 8, 3) := by decide +kernel
theorem dX12_order_70 : decode cX12_order 70 = .ok (.aload_n 0, 1) := by decide +kernel
theorem dX12_order_71 : decode cX12_order 71 = .ok (.invokevirtual 398, 3) := by decide +kernel
theorem dX12_order_74 : decode cX12_order 74 = .ok (.return_, 1) := by decide +kernel
theorem dX12_order_75 : decode cX12_order 75 = .ok (.aload_n 0, 1) := by decide +kernel
theorem dX12_order_76 : decode cX12_order 76 = .ok (.lload_n 1, 1) := by decide +kernel
theorem dX12_order_77 : decode cX12_order 77 = .ok (.invokevirtual 401, 3) := by decide +kernel
theorem dX12_order_80 : decode cX12_order 80 = .ok (.aload_n 0, 1) := by decide +kernel
theorem dX12_order_81 : decode cX12_order 81 = .ok (.bipush 59, 2) := by decide +kernel
theorem dX12_order_83 : decode cX12_order 83 = .ok (.invokevirtual 258, 3) := by decide +kernel
theorem dX12_order_86 : decode cX12_order 86 = .ok (.return_, 1) := by decide +kernel
theorem dX12_goesThrough_0 : decode cX12_goesThrough 0 = .ok (.aload_n 0, 1) := by decide +kernel
theorem dX12_goesThrough_1 : decode cX12_goesThrough 1 = .ok (.iload_n 1, 1) := by decide +kernel
theorem dX12_goesThrough_2 : decode cX12_goesThrough 2 = .ok (.putfield 314, 3) := by decide +kernel
theorem dX12_goesThrough_5 : decode cX12_goesThrough 5 = .ok (.aload_n 0, 1) := by decide +kernel
theorem dX12_goesThrough_6 : decode cX12_goesThrough 6 = .ok (.iconst 0, 1) := by decide +kernel
theorem dX12_goesThrough_7 : decode cX12_goesThrough 7 = .ok (.putfield 318, 3) := by decide +kernel
theorem dX12_goesThrough_10 : decode cX12_goesThrough 10 = .ok (.aload_n 0, 1) := by decide +kernel
theorem dX12_goesThrough_11 : decode cX12_goesThrough 11 = .ok (.iconst 0, 1) := by decide +kernel
theorem dX12_goesThrough_12 : decode cX12_goesThrough 12 = .ok (.putfield 395, 3) := by decide +kernel
theorem dX12_goesThrough_15 : decode cX12_goesThrough 15 = .ok (.aload_n 0, 1) := by decide +kernel
theorem dX12_goesThrough_16 : decode cX12_goesThrough 16 = .ok (.iconst 0, 1) := by decide +kernel
theorem dX12_goesThrough_17 : decode cX12_goesThrough 17 = .ok (.putfield 374, 3) := by decide +kernel
theorem dX12_goesThrough_20 : decode cX12_goesThrough 20 = .ok (.aload_n 0, 1) := by decide +kernel
theorem dX12_goesThrough_21 : decode cX12_goesThrough 21 = .ok (.iconst 0, 1) := by decide +kernel
theorem dX12_goesThrough_22 : decode cX12_goesThrough 22 = .ok (.putfield 321, 3) := by decide +kernel
theorem dX12_goesThrough_25 : decode cX12_goesThrough 25 = .ok (.aload_n 0, 1) := by decide +kernel
theorem dX12_goesThrough_26 : decode cX12_goesThrough 26 = .ok (.invokevirtual 286, 3) := by decide +kernel
theorem dX12_goesThrough_29 : decode cX12_goesThrough 29 = .ok (.aload_n 0, 1) := by decide +kernel
theorem dX12_goesThrough_30 : decode cX12_goesThrough 30 = .ok (.getfield 209, 3) := by decide +kernel
theorem dX12_goesThrough_33 : decode cX12_goesThrough 33 = .ok (.ifCond .ne 40, 3) := by decide +kernel
theorem dX12_goesThrough_36 : decode cX12_goesThrough 36 = .ok (.aload_n 0, 1) := by decide +kernel
theorem dX12_goesThrough_37 : decode cX12_goesThrough 37 = .ok (.getfield 318, 3) := by decide +kernel
theorem dX12_goesThrough_40 : decode cX12_goesThrough 40 = .ok (.ifCond .ne 33, 3) := by decide +kernel
theorem dX12_goesThrough_43 : decode cX12_goesThrough 43 = .ok (.aload_n 0, 1) := by decide +kernel
theorem dX12_goesThrough_44 : decode cX12_goesThrough 44 = .ok (.getfield 188, 3) := by decide +kernel
theorem dX12_goesThrough_47 : decode cX12_goesThrough 47 = .ok (.ifCond .eq 26, 3) := by decide +kernel
theorem dX12_goesThrough_50 : decode cX12_goesThrough 50 = .ok (.aload_n 0, 1) := by decide +kernel
theorem dX12_goesThrough_51 : decode cX12_goesThrough 51 = .ok (.bipush 41, 2) := by decide +kernel
theorem dX12_goesThrough_53 : decode cX12_goesThrough 53 = .ok (.invokevirtual 218, 3) := by decide +kernel
theorem dX12_goesThrough_56 : decode cX12_goesThrough 56 = .ok (.ifCond .eq 10, 3) := by decide +kernel
theorem dX12_goesThrough_59 : decode cX12_goesThrough 59 = .ok (.aload_n 0, 1) := by decide +kernel
theorem dX12_goesThrough_60 : decode cX12_goesThrough 60 = .ok (.invokevirtual 405, 3) := by decide +kernel
theorem dX12_goesThrough_63 : decode cX12_goesThrough 63 = .ok (.goto (-34), 3) := by decide +kernel
theorem dX12_goesThrough_66 : decode cX12_goesThrough 66 = .ok (.aload_n 0, 1) := by decide +kernel
theorem dX12_goesThrough_67 : decode cX12_goesThrough 67 = .ok (.invokevirtual 408, 3) := by decide +kernel
theorem dX12_goesThrough_70 : decode cX12_goesThrough 70 = .ok (.goto (-41), 3) := by decide +kernel
theorem dX12_goesThrough_73 : decode cX12_goesThrough 73 = .ok (.aload_n 0, 1) := by decide +kernel
theorem dX12_goesThrough_74 : decode cX12_goesThrough 74 = .ok (.aload_n 0, 1) := by decide +kernel
theorem dX12_goesThrough_75 : decode cX12_goesThrough 75 = .ok (.getfield 318, 3) := by decide +kernel
theorem dX12_goesThrough_78 : decode cX12_goesThrough 78 = .ok (.ifCond .ne 10, 3) := by decide +kernel
theorem dX12_goesThrough_81 : decode cX12_goesThrough 81 = .ok (.aload_n 0, 1) := by decide +kernel
theorem dX12_goesThrough_82 : decode cX12_goesThrough 82 = .ok (.getfield 374, 3) := by decide +kernel
theorem dX12_goesThrough_85 : decode cX12_goesThrough 85 = .ok (.ifCond .ne 7, 3) := by decide +kernel
theorem dX12_goesThrough_88 : decode cX12_goesThrough 88 = .ok (.iconst 1, 1) := by decide +kernel
theorem dX12_goesThrough_89 : decode cX12_goesThrough 89 = .ok (.goto 4, 3) := by decide +kernel
theorem dX12_goesThrough_92 : decode cX12_goesThrough 92 = .ok (.iconst 0, 1) := by decide +kernel
theorem dX12_goesThrough_93 : decode cX12_goesThrough 93 = .ok (.iconst 1, 1) := by decide +kernel
theorem dX12_goesThrough_94 : decode cX12_goesThrough 94 = .ok (.invokevirtual 221, 3) := by decide +kernel
theorem dX12_goesThrough_97 : decode cX12_goesThrough 97 = .ok (.return_, 1) := by decide +kernel
theorem dX12_runScript_0 : decode cX12_runScript 0 = .ok (.aload_n 0, 1) := by decide +kernel
theorem dX12_runScript_1 : decode cX12_runScript 1 = .ok (.iconst 0, 1) := by decide +kernel
theorem dX12_runScript_2 : decode cX12_runScript 2 = .ok (.putfield 63, 3) := by decide +kernel
theorem dX12_runScript_5 : decode cX12_runScript 5 = .ok (.aload_n 0, 1) := by decide +kernel
theorem dX12_runScript_6 : decode cX12_runScript 6 = .ok (.invokevirtual 279, 3) := by decide +kernel
theorem dX12_runScript_9 : decode cX12_runScript 9 = .ok (.aload_n 0, 1) := by decide +kernel
theorem dX12_runScript_10 : decode cX12_runScript 10 = .ok (.iconst 0, 1) := by decide +kernel
theorem dX12_runScript_11 : decode cX12_runScript 11 = .ok (.invokevirtual 411, 3) := by decide +kernel
theorem dX12_runScript_14 : decode cX12_runScript 14 = .ok (.aload_n 0, 1) := by decide +kernel
theorem dX12_runScript_15 : decode cX12_runScript 15 = .ok (.invokevirtual 292, 3) := by decide +kernel
theorem dX12_runScript_18 : decode cX12_runScript 18 = .ok (.aload_n 0, 1) := by decide +kernel
theorem dX12_runScript_19 : decode cX12_runScript 19 = .ok (.getfield 209, 3) := by decide +kernel
theorem dX12_runScript_22 : decode cX12_runScript 22 = .ok (.ifCond .eq 5, 3) := by decide +kernel
theorem dX12_runScript_25 : decode cX12_runScript 25 = .ok (.iconst (-1), 1) := by decide +kernel
theorem dX12_runScript_26 : decode cX12_runScript 26 = .ok (.ireturn, 1) := by decide +kernel
theorem dX12_runScript_27 : decode cX12_runScript 27 = .ok (.aload_n 0, 1) := by decide +kernel
theorem dX12_runScript_28 : decode cX12_runScript 28 = .ok (.invokevirtual 414, 3) := by decide +kernel
theorem dX12_runScript_31 : decode cX12_runScript 31 = .ok (.aload_n 0, 1) := by decide +kernel
theorem dX12_runScript_32 : decode cX12_runScript 32 = .ok (.iconst 1, 1) := by decide +kernel
theorem dX12_runScript_33 : decode cX12_runScript 33 = .ok (.invokevirtual 411, 3) := by decide +kernel
theorem dX12_runScript_36 : decode cX12_runScript 36 = .ok (.aload_n 0, 1) := by decide +kernel
theorem dX12_runScript_37 : decode cX12_runScript 37 = .ok (.getfield 321, 3) := by decide +kernel
theorem dX12_runScript_40 : decode cX12_runScript 40 = .ok (.ireturn, 1) := by decide +kernel
theorem dX12_errorCode_0 : decode cX12_errorCode 0 = .ok (.aload_n 0, 1) := by decide +kernel
theorem dX12_errorCode_1 : decode cX12_errorCode 1 = .ok (.iconst 0, 1) := by decide +kernel
theorem dX12_errorCode_2 : decode cX12_errorCode 2 = .ok (.putfield 63, 3) := by decide +kernel
theorem dX12_errorCode_5 : decode cX12_errorCode 5 = .ok (.aload_n 0, 1) := by decide +kernel
theorem dX12_errorCode_6 : decode cX12_errorCode 6 = .ok (.getfield 276, 3) := by decide +kernel
theorem dX12_errorCode_9 : decode cX12_errorCode 9 = .ok (.ireturn, 1) := by decide +kernel
theorem dX12_errorPosition_0 : decode cX12_errorPosition 0 = .ok (.aload_n 0, 1) := by decide +kernel
theorem dX12_errorPosition_1 : decode cX12_errorPosition 1 = .ok (.iconst 0, 1) := by decide +kernel
theorem dX12_errorPosition_2 : decode cX12_errorPosition 2 = .ok (.putfield 63, 3) := by decide +kernel
theorem dX12_errorPosition_5 : decode cX12_errorPosition 5 = .ok (.aload_n 0, 1) := by decide +kernel
theorem dX12_errorPosition_6 : decode cX12_errorPosition 6 = .ok (.getfield 35, 3) := by decide +kernel
theorem dX12_errorPosition_9 : decode cX12_errorPosition 9 = .ok (.ireturn, 1) := by decide +kernel
theorem dX12_keepsPast_0 : decode cX12_keepsPast 0 = .ok (.aload_n 0, 1) := by decide +kernel
theorem dX12_keepsPast_1 : decode cX12_keepsPast 1 = .ok (.getfield 295, 3) := by decide +kernel
theorem dX12_keepsPast_4 : decode cX12_keepsPast 4 = .ok (.bipush 8, 2) := by decide +kernel
theorem dX12_keepsPast_6 : decode cX12_keepsPast 6 = .ok (.if_icmp .ne 44, 3) := by decide +kernel
theorem dX12_keepsPast_9 : decode cX12_keepsPast 9 = .ok (.iconst 0, 1) := by decide +kernel
theorem dX12_keepsPast_10 : decode cX12_keepsPast 10 = .ok (.istore_n 1, 1) := by decide +kernel
theorem dX12_keepsPast_11 : decode cX12_keepsPast 11 = .ok (.iload_n 1, 1) := by decide +kernel
theorem dX12_keepsPast_12 : decode cX12_keepsPast 12 = .ok (.sipush 2051, 3) := by decide +kernel
theorem dX12_keepsPast_15 : decode cX12_keepsPast 15 = .ok (.if_icmp .ge 25, 3) := by decide +kernel
theorem dX12_keepsPast_18 : decode cX12_keepsPast 18 = .ok (.aload_n 0, 1) := by decide +kernel
theorem dX12_keepsPast_19 : decode cX12_keepsPast 19 = .ok (.getfield 16, 3) := by decide +kernel
theorem dX12_keepsPast_22 : decode cX12_keepsPast 22 = .ok (.iload_n 1, 1) := by decide +kernel
theorem dX12_keepsPast_23 : decode cX12_keepsPast 23 = .ok (.aload_n 0, 1) := by decide +kernel
theorem dX12_keepsPast_24 : decode cX12_keepsPast 24 = .ok (.getfield 16, 3) := by decide +kernel
theorem dX12_keepsPast_27 : decode cX12_keepsPast 27 = .ok (.iload_n 1, 1) := by decide +kernel
theorem dX12_keepsPast_28 : decode cX12_keepsPast 28 = .ok (.sipush 293, 3) := by decide +kernel
theorem dX12_keepsPast_31 : decode cX12_keepsPast 31 = .ok (.iadd, 1) := by decide +kernel
theorem dX12_keepsPast_32 : decode cX12_keepsPast 32 = .ok (.iaload, 1) := by decide +kernel
theorem dX12_keepsPast_33 : decode cX12_keepsPast 33 = .ok (.iastore, 1) := by decide +kernel
theorem dX12_keepsPast_34 : decode cX12_keepsPast 34 = .ok (.iinc 1 1, 3) := by decide +kernel
theorem dX12_keepsPast_37 : decode cX12_keepsPast 37 = .ok (.goto (-26), 3) := by decide +kernel
theorem dX12_keepsPast_40 : decode cX12_keepsPast 40 = .ok (.aload_n 0, 1) := by decide +kernel
theorem dX12_keepsPast_41 : decode cX12_keepsPast 41 = .ok (.dup, 1) := by decide +kernel
theorem dX12_keepsPast_42 : decode cX12_keepsPast 42 = .ok (.getfield 295, 3) := by decide +kernel
theorem dX12_keepsPast_45 : decode cX12_keepsPast 45 = .ok (.iconst 1, 1) := by decide +kernel
theorem dX12_keepsPast_46 : decode cX12_keepsPast 46 = .ok (.isub, 1) := by decide +kernel
theorem dX12_keepsPast_47 : decode cX12_keepsPast 47 = .ok (.putfield 295, 3) := by decide +kernel
theorem dX12_keepsPast_50 : decode cX12_keepsPast 50 = .ok (.aload_n 0, 1) := by decide +kernel
theorem dX12_keepsPast_51 : decode cX12_keepsPast 51 = .ok (.getfield 7, 3) := by decide +kernel
theorem dX12_keepsPast_54 : decode cX12_keepsPast 54 = .ok (.iconst 0, 1) := by decide +kernel
theorem dX12_keepsPast_55 : decode cX12_keepsPast 55 = .ok (.aload_n 0, 1) := by decide +kernel
theorem dX12_keepsPast_56 : decode cX12_keepsPast 56 = .ok (.getfield 16, 3) := by decide +kernel
theorem dX12_keepsPast_59 : decode cX12_keepsPast 59 = .ok (.sipush 293, 3) := by decide +kernel
theorem dX12_keepsPast_62 : decode cX12_keepsPast 62 = .ok (.aload_n 0, 1) := by decide +kernel
theorem dX12_keepsPast_63 : decode cX12_keepsPast 63 = .ok (.getfield 295, 3) := by decide +kernel
theorem dX12_keepsPast_66 : decode cX12_keepsPast 66 = .ok (.imul, 1) := by decide +kernel
theorem dX12_keepsPast_67 : decode cX12_keepsPast 67 = .ok (.invokestatic 282, 3) := by decide +kernel
theorem dX12_keepsPast_70 : decode cX12_keepsPast 70 = .ok (.aload_n 0, 1) := by decide +kernel
theorem dX12_keepsPast_71 : decode cX12_keepsPast 71 = .ok (.dup, 1) := by decide +kernel
theorem dX12_keepsPast_72 : decode cX12_keepsPast 72 = .ok (.getfield 295, 3) := by decide +kernel
theorem dX12_keepsPast_75 : decode cX12_keepsPast 75 = .ok (.iconst 1, 1) := by decide +kernel
theorem dX12_keepsPast_76 : decode cX12_keepsPast 76 = .ok (.iadd, 1) := by decide +kernel
theorem dX12_keepsPast_77 : decode cX12_keepsPast 77 = .ok (.putfield 295, 3) := by decide +kernel
theorem dX12_keepsPast_80 : decode cX12_keepsPast 80 = .ok (.return_, 1) := by decide +kernel
theorem dX12_noTrader_0 : decode cX12_noTrader 0 = .ok (.aload_n 0, 1) := by decide +kernel
theorem dX12_noTrader_1 : decode cX12_noTrader 1 = .ok (.iload_n 1, 1) := by decide +kernel
theorem dX12_noTrader_2 : decode cX12_noTrader 2 = .ok (.i2l, 1) := by decide +kernel
theorem dX12_noTrader_3 : decode cX12_noTrader 3 = .ok (.lconst 0, 1) := by decide +kernel
theorem dX12_noTrader_4 : decode cX12_noTrader 4 = .ok (.aload_n 0, 1) := by decide +kernel
theorem dX12_noTrader_5 : decode cX12_noTrader 5 = .ok (.getfield 7, 3) := by decide +kernel
theorem dX12_noTrader_8 : decode cX12_noTrader 8 = .ok (.bipush 8, 2) := by decide +kernel
theorem dX12_noTrader_10 : decode cX12_noTrader 10 = .ok (.iaload, 1) := by decide +kernel
theorem dX12_noTrader_11 : decode cX12_noTrader 11 = .ok (.iconst 1, 1) := by decide +kernel
theorem dX12_noTrader_12 : decode cX12_noTrader 12 = .ok (.isub, 1) := by decide +kernel
theorem dX12_noTrader_13 : decode cX12_noTrader 13 = .ok (.i2l, 1) := by decide +kernel
theorem dX12_noTrader_14 : decode cX12_noTrader 14 = .ok (.invokestatic 86, 3) := by decide +kernel
theorem dX12_noTrader_17 : decode cX12_noTrader 17 = .ok (.ifCond .ne 7, 3) := by decide +kernel
theorem dX12_noTrader_20 : decode cX12_noTrader 20 = .ok (.iconst 1, 1) := by decide +kernel
theorem dX12_noTrader_21 : decode cX12_noTrader 21 = .ok (.goto 4, 3) := by decide +kernel
theorem dX12_noTrader_24 : decode cX12_noTrader 24 = .ok (.iconst 0, 1) := by decide +kernel
theorem dX12_noTrader_25 : decode cX12_noTrader 25 = .ok (.iconst 1, 1) := by decide +kernel
theorem dX12_noTrader_26 : decode cX12_noTrader 26 = .ok (.invokevirtual 161, 3) := by decide +kernel
theorem dX12_noTrader_29 : decode cX12_noTrader 29 = .ok (.ireturn, 1) := by decide +kernel
theorem dX12_noBoard_0 : decode cX12_noBoard 0 = .ok (.aload_n 0, 1) := by decide +kernel
theorem dX12_noBoard_1 : decode cX12_noBoard 1 = .ok (.iload_n 1, 1) := by decide +kernel
theorem dX12_noBoard_2 : decode cX12_noBoard 2 = .ok (.i2l, 1) := by decide +kernel
theorem dX12_noBoard_3 : decode cX12_noBoard 3 = .ok (.lconst 0, 1) := by decide +kernel
theorem dX12_noBoard_4 : decode cX12_noBoard 4 = .ok (.aload_n 0, 1) := by decide +kernel
theorem dX12_noBoard_5 : decode cX12_noBoard 5 = .ok (.getfield 7, 3) := by decide +kernel
theorem dX12_noBoard_8 : decode cX12_noBoard 8 = .ok (.bipush 7, 2) := by decide +kernel
theorem dX12_noBoard_10 : decode cX12_noBoard 10 = .ok (.iaload, 1) := by decide +kernel
theorem dX12_noBoard_11 : decode cX12_noBoard 11 = .ok (.iconst 1, 1) := by decide +kernel
theorem dX12_noBoard_12 : decode cX12_noBoard 12 = .ok (.isub, 1) := by decide +kernel
theorem dX12_noBoard_13 : decode cX12_noBoard 13 = .ok (.i2l, 1) := by decide +kernel
theorem dX12_noBoard_14 : decode cX12_noBoard 14 = .ok (.invokestatic 86, 3) := by decide +kernel
theorem dX12_noBoard_17 : decode cX12_noBoard 17 = .ok (.ifCond .ne 7, 3) := by decide +kernel
theorem dX12_noBoard_20 : decode cX12_noBoard 20 = .ok (.iconst 1, 1) := by decide +kernel
theorem dX12_noBoard_21 : decode cX12_noBoard 21 = .ok (.goto 4, 3) := by decide +kernel
theorem dX12_noBoard_24 : decode cX12_noBoard 24 = .ok (.iconst 0, 1) := by decide +kernel
theorem dX12_noBoard_25 : decode cX12_noBoard 25 = .ok (.iconst 1, 1) := by decide +kernel
theorem dX12_noBoard_26 : decode cX12_noBoard 26 = .ok (.invokevirtual 161, 3) := by decide +kernel
theorem dX12_noBoard_29 : decode cX12_noBoard 29 = .ok (.ireturn, 1) := by decide +kernel
theorem dX12_noSeat_0 : decode cX12_noSeat 0 = .ok (.aload_n 0, 1) := by decide +kernel
theorem dX12_noSeat_1 : decode cX12_noSeat 1 = .ok (.iload_n 1, 1) := by decide +kernel
theorem dX12_noSeat_2 : decode cX12_noSeat 2 = .ok (.invokevirtual 417, 3) := by decide +kernel
theorem dX12_noSeat_5 : decode cX12_noSeat 5 = .ok (.ifCond .ne 25, 3) := by decide +kernel
theorem dX12_noSeat_8 : decode cX12_noSeat 8 = .ok (.aload_n 0, 1) := by decide +kernel
theorem dX12_noSeat_9 : decode cX12_noSeat 9 = .ok (.aload_n 0, 1) := by decide +kernel
theorem dX12_noSeat_10 : decode cX12_noSeat 10 = .ok (.iload_n 1, 1) := by decide +kernel
theorem dX12_noSeat_11 : decode cX12_noSeat 11 = .ok (.iload_n 2, 1) := by decide +kernel
theorem dX12_noSeat_12 : decode cX12_noSeat 12 = .ok (.invokevirtual 341, 3) := by decide +kernel
theorem dX12_noSeat_15 : decode cX12_noSeat 15 = .ok (.ifCond .ne 7, 3) := by decide +kernel
theorem dX12_noSeat_18 : decode cX12_noSeat 18 = .ok (.iconst 1, 1) := by decide +kernel
theorem dX12_noSeat_19 : decode cX12_noSeat 19 = .ok (.goto 4, 3) := by decide +kernel
theorem dX12_noSeat_22 : decode cX12_noSeat 22 = .ok (.iconst 0, 1) := by decide +kernel
theorem dX12_noSeat_23 : decode cX12_noSeat 23 = .ok (.iconst 1, 1) := by decide +kernel
theorem dX12_noSeat_24 : decode cX12_noSeat 24 = .ok (.invokevirtual 161, 3) := by decide +kernel
theorem dX12_noSeat_27 : decode cX12_noSeat 27 = .ok (.ifCond .eq 7, 3) := by decide +kernel
theorem dX12_noSeat_30 : decode cX12_noSeat 30 = .ok (.iconst 1, 1) := by decide +kernel
theorem dX12_noSeat_31 : decode cX12_noSeat 31 = .ok (.goto 4, 3) := by decide +kernel
theorem dX12_noSeat_34 : decode cX12_noSeat 34 = .ok (.iconst 0, 1) := by decide +kernel
theorem dX12_noSeat_35 : decode cX12_noSeat 35 = .ok (.ireturn, 1) := by decide +kernel
theorem dX12_wholeName_0 : decode cX12_wholeName 0 = .ok (.iconst 0, 1) := by decide +kernel
theorem dX12_wholeName_1 : decode cX12_wholeName 1 = .ok (.istore_n 1, 1) := by decide +kernel
theorem dX12_wholeName_2 : decode cX12_wholeName 2 = .ok (.iconst 0, 1) := by decide +kernel
theorem dX12_wholeName_3 : decode cX12_wholeName 3 = .ok (.istore_n 2, 1) := by decide +kernel
theorem dX12_wholeName_4 : decode cX12_wholeName 4 = .ok (.iload_n 2, 1) := by decide +kernel
theorem dX12_wholeName_5 : decode cX12_wholeName 5 = .ok (.aload_n 0, 1) := by decide +kernel
theorem dX12_wholeName_6 : decode cX12_wholeName 6 = .ok (.getfield 155, 3) := by decide +kernel
theorem dX12_wholeName_9 : decode cX12_wholeName 9 = .ok (.if_icmp .ge 44, 3) := by decide +kernel
theorem dX12_wholeName_12 : decode cX12_wholeName 12 = .ok (.aload_n 0, 1) := by decide +kernel
theorem dX12_wholeName_13 : decode cX12_wholeName 13 = .ok (.getfield 29, 3) := by decide +kernel
theorem dX12_wholeName_16 : decode cX12_wholeName 16 = .ok (.iload_n 2, 1) := by decide +kernel
theorem dX12_wholeName_17 : decode cX12_wholeName 17 = .ok (.iaload, 1) := by decide +kernel
theorem dX12_wholeName_18 : decode cX12_wholeName 18 = .ok (.invokestatic 191, 3) := by decide +kernel
theorem dX12_wholeName_21 : decode cX12_wholeName 21 = .ok (.ifCond .eq 9, 3) := by decide +kernel
theorem dX12_wholeName_24 : decode cX12_wholeName 24 = .ok (.iload_n 2, 1) := by decide +kernel
theorem dX12_wholeName_25 : decode cX12_wholeName 25 = .ok (.bipush 6, 2) := by decide +kernel
theorem dX12_wholeName_27 : decode cX12_wholeName 27 = .ok (.if_icmp .ne 5, 3) := by decide +kernel
theorem dX12_wholeName_30 : decode cX12_wholeName 30 = .ok (.iconst 0, 1) := by decide +kernel
theorem dX12_wholeName_31 : decode cX12_wholeName 31 = .ok (.ireturn, 1) := by decide +kernel
theorem dX12_wholeName_32 : decode cX12_wholeName 32 = .ok (.bipush 32, 2) := by decide +kernel
theorem dX12_wholeName_34 : decode cX12_wholeName 34 = .ok (.iload_n 1, 1) := by decide +kernel
theorem dX12_wholeName_35 : decode cX12_wholeName 35 = .ok (.imul, 1) := by decide +kernel
theorem dX12_wholeName_36 : decode cX12_wholeName 36 = .ok (.aload_n 0, 1) := by decide +kernel
theorem dX12_wholeName_37 : decode cX12_wholeName 37 = .ok (.getfield 29, 3) := by decide +kernel
theorem dX12_wholeName_40 : decode cX12_wholeName 40 = .ok (.iload_n 2, 1) := by decide +kernel
theorem dX12_wholeName_41 : decode cX12_wholeName 41 = .ok (.iaload, 1) := by decide +kernel
theorem dX12_wholeName_42 : decode cX12_wholeName 42 = .ok (.iadd, 1) := by decide +kernel
theorem dX12_wholeName_43 : decode cX12_wholeName 43 = .ok (.bipush 96, 2) := by decide +kernel
theorem dX12_wholeName_45 : decode cX12_wholeName 45 = .ok (.isub, 1) := by decide +kernel
theorem dX12_wholeName_46 : decode cX12_wholeName 46 = .ok (.istore_n 1, 1) := by decide +kernel
theorem dX12_wholeName_47 : decode cX12_wholeName 47 = .ok (.iinc 2 1, 3) := by decide +kernel
theorem dX12_wholeName_50 : decode cX12_wholeName 50 = .ok (.goto (-46), 3) := by decide +kernel
theorem dX12_wholeName_53 : decode cX12_wholeName 53 = .ok (.iload_n 1, 1) := by decide +kernel
theorem dX12_wholeName_54 : decode cX12_wholeName 54 = .ok (.ireturn, 1) := by decide +kernel
theorem dX12_join_0 : decode cX12_join 0 = .ok (.aload_n 0, 1) := by decide +kernel
theorem dX12_join_1 : decode cX12_join 1 = .ok (.iconst 0, 1) := by decide +kernel
theorem dX12_join_2 : decode cX12_join 2 = .ok (.putfield 63, 3) := by decide +kernel
theorem dX12_join_5 : decode cX12_join 5 = .ok (.aload_n 0, 1) := by decide +kernel
theorem dX12_join_6 : decode cX12_join 6 = .ok (.iload_n 1, 1) := by decide +kernel
theorem dX12_join_7 : decode cX12_join 7 = .ok (.i2l, 1) := by decide +kernel
theorem dX12_join_8 : decode cX12_join 8 = .ok (.lconst 1, 1) := by decide +kernel
theorem dX12_join_9 : decode cX12_join 9 = .ok (.ldc2_w 420, 3) := by decide +kernel
theorem dX12_join_12 : decode cX12_join 12 = .ok (.invokestatic 86, 3) := by decide +kernel
theorem dX12_join_15 : decode cX12_join 15 = .ok (.ifCond .eq 15, 3) := by decide +kernel
theorem dX12_join_18 : decode cX12_join 18 = .ok (.iload_n 2, 1) := by decide +kernel
theorem dX12_join_19 : decode cX12_join 19 = .ok (.i2l, 1) := by decide +kernel
theorem dX12_join_20 : decode cX12_join 20 = .ok (.lconst 0, 1) := by decide +kernel
theorem dX12_join_21 : decode cX12_join 21 = .ok (.ldc2_w 422, 3) := by decide +kernel
theorem dX12_join_24 : decode cX12_join 24 = .ok (.invokestatic 86, 3) := by decide +kernel
theorem dX12_join_27 : decode cX12_join 27 = .ok (.ifCond .ne 7, 3) := by decide +kernel
theorem dX12_join_30 : decode cX12_join 30 = .ok (.iconst 1, 1) := by decide +kernel
theorem dX12_join_31 : decode cX12_join 31 = .ok (.goto 4, 3) := by decide +kernel
theorem dX12_join_34 : decode cX12_join 34 = .ok (.iconst 0, 1) := by decide +kernel
theorem dX12_join_35 : decode cX12_join 35 = .ok (.iconst 1, 1) := by decide +kernel
theorem dX12_join_36 : decode cX12_join 36 = .ok (.invokevirtual 161, 3) := by decide +kernel
theorem dX12_join_39 : decode cX12_join 39 = .ok (.ifCond .eq 5, 3) := by decide +kernel
theorem dX12_join_42 : decode cX12_join 42 = .ok (.iconst 0, 1) := by decide +kernel
theorem dX12_join_43 : decode cX12_join 43 = .ok (.ireturn, 1) := by decide +kernel
theorem dX12_join_44 : decode cX12_join 44 = .ok (.aload_n 0, 1) := by decide +kernel
theorem dX12_join_45 : decode cX12_join 45 = .ok (.invokevirtual 424, 3) := by decide +kernel
theorem dX12_join_48 : decode cX12_join 48 = .ok (.istore_n 3, 1) := by decide +kernel
theorem dX12_join_49 : decode cX12_join 49 = .ok (.aload_n 0, 1) := by decide +kernel
theorem dX12_join_50 : decode cX12_join 50 = .ok (.aload_n 0, 1) := by decide +kernel
theorem dX12_join_51 : decode cX12_join 51 = .ok (.getfield 7, 3) := by decide +kernel
theorem dX12_join_54 : decode cX12_join 54 = .ok (.bipush 8, 2) := by decide +kernel
theorem dX12_join_56 : decode cX12_join 56 = .ok (.iaload, 1) := by decide +kernel
theorem dX12_join_57 : decode cX12_join 57 = .ok (.bipush 24, 2) := by decide +kernel
theorem dX12_join_59 : decode cX12_join 59 = .ok (.if_icmp .eq 16, 3) := by decide +kernel
theorem dX12_join_62 : decode cX12_join 62 = .ok (.iload_n 3, 1) := by decide +kernel
theorem dX12_join_63 : decode cX12_join 63 = .ok (.ifCond .eq 12, 3) := by decide +kernel
theorem dX12_join_66 : decode cX12_join 66 = .ok (.aload_n 0, 1) := by decide +kernel
theorem dX12_join_67 : decode cX12_join 67 = .ok (.iload_n 3, 1) := by decide +kernel
theorem dX12_join_68 : decode cX12_join 68 = .ok (.invokevirtual 232, 3) := by decide +kernel
theorem dX12_join_71 : decode cX12_join 71 = .ok (.iconst (-1), 1) := by decide +kernel
theorem dX12_join_72 : decode cX12_join 72 = .ok (.if_icmp .eq 7, 3) := by decide +kernel
theorem dX12_join_75 : decode cX12_join 75 = .ok (.iconst 1, 1) := by decide +kernel
theorem dX12_join_76 : decode cX12_join 76 = .ok (.goto 4, 3) := by decide +kernel
theorem dX12_join_79 : decode cX12_join 79 = .ok (.iconst 0, 1) := by decide +kernel
theorem dX12_join_80 : decode cX12_join 80 = .ok (.iconst 2, 1) := by decide +kernel
theorem dX12_join_81 : decode cX12_join 81 = .ok (.invokevirtual 161, 3) := by decide +kernel
theorem dX12_join_84 : decode cX12_join 84 = .ok (.ifCond .eq 5, 3) := by decide +kernel
theorem dX12_join_87 : decode cX12_join 87 = .ok (.iconst 0, 1) := by decide +kernel
theorem dX12_join_88 : decode cX12_join 88 = .ok (.ireturn, 1) := by decide +kernel
theorem dX12_join_89 : decode cX12_join 89 = .ok (.aload_n 0, 1) := by decide +kernel
theorem dX12_join_90 : decode cX12_join 90 = .ok (.invokevirtual 414, 3) := by decide +kernel
theorem dX12_join_93 : decode cX12_join 93 = .ok (.aload_n 0, 1) := by decide +kernel
theorem dX12_join_94 : decode cX12_join 94 = .ok (.iconst 0, 1) := by decide +kernel
theorem dX12_join_95 : decode cX12_join 95 = .ok (.putfield 155, 3) := by decide +kernel
theorem dX12_join_98 : decode cX12_join 98 = .ok (.aload_n 0, 1) := by decide +kernel
theorem dX12_join_99 : decode cX12_join 99 = .ok (.iload_n 3, 1) := by decide +kernel
theorem dX12_join_100 : decode cX12_join 100 = .ok (.iload_n 1, 1) := by decide +kernel
theorem dX12_join_101 : decode cX12_join 101 = .ok (.iload_n 2, 1) := by decide +kernel
theorem dX12_join_102 : decode cX12_join 102 = .ok (.invokevirtual 334, 3) := by decide +kernel
theorem dX12_join_105 : decode cX12_join 105 = .ok (.ireturn, 1) := by decide +kernel
theorem dX12_buySeat_0 : decode cX12_buySeat 0 = .ok (.aload_n 0, 1) := by decide +kernel
theorem dX12_buySeat_1 : decode cX12_buySeat 1 = .ok (.iconst 0, 1) := by decide +kernel
theorem dX12_buySeat_2 : decode cX12_buySeat 2 = .ok (.putfield 63, 3) := by decide +kernel
theorem dX12_buySeat_5 : decode cX12_buySeat 5 = .ok (.aload_n 0, 1) := by decide +kernel
theorem dX12_buySeat_6 : decode cX12_buySeat 6 = .ok (.iload_n 1, 1) := by decide +kernel
theorem dX12_buySeat_7 : decode cX12_buySeat 7 = .ok (.invokevirtual 427, 3) := by decide +kernel
theorem dX12_buySeat_10 : decode cX12_buySeat 10 = .ok (.ifCond .ne 35, 3) := by decide +kernel
theorem dX12_buySeat_13 : decode cX12_buySeat 13 = .ok (.aload_n 0, 1) := by decide +kernel
theorem dX12_buySeat_14 : decode cX12_buySeat 14 = .ok (.iload_n 2, 1) := by decide +kernel
theorem dX12_buySeat_15 : decode cX12_buySeat 15 = .ok (.iload_n 3, 1) := by decide +kernel
theorem dX12_buySeat_16 : decode cX12_buySeat 16 = .ok (.invokevirtual 430, 3) := by decide +kernel
theorem dX12_buySeat_19 : decode cX12_buySeat 19 = .ok (.ifCond .ne 26, 3) := by decide +kernel
theorem dX12_buySeat_22 : decode cX12_buySeat 22 = .ok (.aload_n 0, 1) := by decide +kernel
theorem dX12_buySeat_23 : decode cX12_buySeat 23 = .ok (.aload_n 0, 1) := by decide +kernel
theorem dX12_buySeat_24 : decode cX12_buySeat 24 = .ok (.iload_n 1, 1) := by decide +kernel
theorem dX12_buySeat_25 : decode cX12_buySeat 25 = .ok (.iload_n 2, 1) := by decide +kernel
theorem dX12_buySeat_26 : decode cX12_buySeat 26 = .ok (.iload_n 3, 1) := by decide +kernel
theorem dX12_buySeat_27 : decode cX12_buySeat 27 = .ok (.invokevirtual 344, 3) := by decide +kernel
theorem dX12_buySeat_30 : decode cX12_buySeat 30 = .ok (.ifCond .eq 7, 3) := by decide +kernel
theorem dX12_buySeat_33 : decode cX12_buySeat 33 = .ok (.iconst 1, 1) := by decide +kernel
theorem dX12_buySeat_34 : decode cX12_buySeat 34 = .ok (.goto 4, 3) := by decide +kernel
theorem dX12_buySeat_37 : decode cX12_buySeat 37 = .ok (.iconst 0, 1) := by decide +kernel
theorem dX12_buySeat_38 : decode cX12_buySeat 38 = .ok (.iconst 2, 1) := by decide +kernel
theorem dX12_buySeat_39 : decode cX12_buySeat 39 = .ok (.invokevirtual 161, 3) := by decide +kernel
theorem dX12_buySeat_42 : decode cX12_buySeat 42 = .ok (.ifCond .eq 5, 3) := by decide +kernel
theorem dX12_buySeat_45 : decode cX12_buySeat 45 = .ok (.iconst 0, 1) := by decide +kernel
theorem dX12_buySeat_46 : decode cX12_buySeat 46 = .ok (.ireturn, 1) := by decide +kernel
theorem dX12_buySeat_47 : decode cX12_buySeat 47 = .ok (.aload_n 0, 1) := by decide +kernel
theorem dX12_buySeat_48 : decode cX12_buySeat 48 = .ok (.invokevirtual 414, 3) := by decide +kernel
theorem dX12_buySeat_51 : decode cX12_buySeat 51 = .ok (.aload_n 0, 1) := by decide +kernel
theorem dX12_buySeat_52 : decode cX12_buySeat 52 = .ok (.iload_n 1, 1) := by decide +kernel
theorem dX12_buySeat_53 : decode cX12_buySeat 53 = .ok (.iload_n 2, 1) := by decide +kernel
theorem dX12_buySeat_54 : decode cX12_buySeat 54 = .ok (.iload_n 3, 1) := by decide +kernel
theorem dX12_buySeat_55 : decode cX12_buySeat 55 = .ok (.invokevirtual 347, 3) := by decide +kernel
theorem dX12_buySeat_58 : decode cX12_buySeat 58 = .ok (.ireturn, 1) := by decide +kernel
theorem dX12_leaveSeat_0 : decode cX12_leaveSeat 0 = .ok (.aload_n 0, 1) := by decide +kernel
theorem dX12_leaveSeat_1 : decode cX12_leaveSeat 1 = .ok (.iconst 0, 1) := by decide +kernel
theorem dX12_leaveSeat_2 : decode cX12_leaveSeat 2 = .ok (.putfield 63, 3) := by decide +kernel
theorem dX12_leaveSeat_5 : decode cX12_leaveSeat 5 = .ok (.aload_n 0, 1) := by decide +kernel
theorem dX12_leaveSeat_6 : decode cX12_leaveSeat 6 = .ok (.iload_n 1, 1) := by decide +kernel
theorem dX12_leaveSeat_7 : decode cX12_leaveSeat 7 = .ok (.invokevirtual 427, 3) := by decide +kernel
theorem dX12_leaveSeat_10 : decode cX12_leaveSeat 10 = .ok (.ifCond .ne 24, 3) := by decide +kernel
theorem dX12_leaveSeat_13 : decode cX12_leaveSeat 13 = .ok (.aload_n 0, 1) := by decide +kernel
theorem dX12_leaveSeat_14 : decode cX12_leaveSeat 14 = .ok (.aload_n 0, 1) := by decide +kernel
theorem dX12_leaveSeat_15 : decode cX12_leaveSeat 15 = .ok (.iload_n 1, 1) := by decide +kernel
theorem dX12_leaveSeat_16 : decode cX12_leaveSeat 16 = .ok (.invokevirtual 79, 3) := by decide +kernel
theorem dX12_leaveSeat_19 : decode cX12_leaveSeat 19 = .ok (.ifCond .ne 7, 3) := by decide +kernel
theorem dX12_leaveSeat_22 : decode cX12_leaveSeat 22 = .ok (.iconst 1, 1) := by decide +kernel
theorem dX12_leaveSeat_23 : decode cX12_leaveSeat 23 = .ok (.goto 4, 3) := by decide +kernel
theorem dX12_leaveSeat_26 : decode cX12_leaveSeat 26 = .ok (.iconst 0, 1) := by decide +kernel
theorem dX12_leaveSeat_27 : decode cX12_leaveSeat 27 = .ok (.iconst 2, 1) := by decide +kernel
theorem dX12_leaveSeat_28 : decode cX12_leaveSeat 28 = .ok (.invokevirtual 161, 3) := by decide +kernel
theorem dX12_leaveSeat_31 : decode cX12_leaveSeat 31 = .ok (.ifCond .eq 5, 3) := by decide +kernel
theorem dX12_leaveSeat_34 : decode cX12_leaveSeat 34 = .ok (.iconst 0, 1) := by decide +kernel
theorem dX12_leaveSeat_35 : decode cX12_leaveSeat 35 = .ok (.ireturn, 1) := by decide +kernel
theorem dX12_leaveSeat_36 : decode cX12_leaveSeat 36 = .ok (.aload_n 0, 1) := by decide +kernel
theorem dX12_leaveSeat_37 : decode cX12_leaveSeat 37 = .ok (.invokevirtual 414, 3) := by decide +kernel
theorem dX12_leaveSeat_40 : decode cX12_leaveSeat 40 = .ok (.aload_n 0, 1) := by decide +kernel
theorem dX12_leaveSeat_41 : decode cX12_leaveSeat 41 = .ok (.iload_n 1, 1) := by decide +kernel
theorem dX12_leaveSeat_42 : decode cX12_leaveSeat 42 = .ok (.invokevirtual 350, 3) := by decide +kernel
theorem dX12_leaveSeat_45 : decode cX12_leaveSeat 45 = .ok (.ireturn, 1) := by decide +kernel
theorem dX12_noSale_0 : decode cX12_noSale 0 = .ok (.aload_n 0, 1) := by decide +kernel
theorem dX12_noSale_1 : decode cX12_noSale 1 = .ok (.iload_n 1, 1) := by decide +kernel
theorem dX12_noSale_2 : decode cX12_noSale 2 = .ok (.invokevirtual 427, 3) := by decide +kernel
theorem dX12_noSale_5 : decode cX12_noSale 5 = .ok (.ifCond .ne 41, 3) := by decide +kernel
theorem dX12_noSale_8 : decode cX12_noSale 8 = .ok (.aload_n 0, 1) := by decide +kernel
theorem dX12_noSale_9 : decode cX12_noSale 9 = .ok (.iload_n 2, 1) := by decide +kernel
theorem dX12_noSale_10 : decode cX12_noSale 10 = .ok (.invokevirtual 427, 3) := by decide +kernel
theorem dX12_noSale_13 : decode cX12_noSale 13 = .ok (.ifCond .ne 33, 3) := by decide +kernel
theorem dX12_noSale_16 : decode cX12_noSale 16 = .ok (.aload_n 0, 1) := by decide +kernel
theorem dX12_noSale_17 : decode cX12_noSale 17 = .ok (.iload_n 1, 1) := by decide +kernel
theorem dX12_noSale_18 : decode cX12_noSale 18 = .ok (.iload_n 2, 1) := by decide +kernel
theorem dX12_noSale_19 : decode cX12_noSale 19 = .ok (.if_icmp .eq 15, 3) := by decide +kernel
theorem dX12_noSale_22 : decode cX12_noSale 22 = .ok (.iload_n 3, 1) := by decide +kernel
theorem dX12_noSale_23 : decode cX12_noSale 23 = .ok (.i2l, 1) := by decide +kernel
theorem dX12_noSale_24 : decode cX12_noSale 24 = .ok (.lconst 1, 1) := by decide +kernel
theorem dX12_noSale_25 : decode cX12_noSale 25 = .ok (.ldc2_w 433, 3) := by decide +kernel
theorem dX12_noSale_28 : decode cX12_noSale 28 = .ok (.invokestatic 86, 3) := by decide +kernel
theorem dX12_noSale_31 : decode cX12_noSale 31 = .ok (.ifCond .ne 7, 3) := by decide +kernel
theorem dX12_noSale_34 : decode cX12_noSale 34 = .ok (.iconst 1, 1) := by decide +kernel
theorem dX12_noSale_35 : decode cX12_noSale 35 = .ok (.goto 4, 3) := by decide +kernel
theorem dX12_noSale_38 : decode cX12_noSale 38 = .ok (.iconst 0, 1) := by decide +kernel
theorem dX12_noSale_39 : decode cX12_noSale 39 = .ok (.iconst 2, 1) := by decide +kernel
theorem dX12_noSale_40 : decode cX12_noSale 40 = .ok (.invokevirtual 161, 3) := by decide +kernel
theorem dX12_noSale_43 : decode cX12_noSale 43 = .ok (.ifCond .eq 7, 3) := by decide +kernel
theorem dX12_noSale_46 : decode cX12_noSale 46 = .ok (.iconst 1, 1) := by decide +kernel
theorem dX12_noSale_47 : decode cX12_noSale 47 = .ok (.goto 4, 3) := by decide +kernel
theorem dX12_noSale_50 : decode cX12_noSale 50 = .ok (.iconst 0, 1) := by decide +kernel
theorem dX12_noSale_51 : decode cX12_noSale 51 = .ok (.ireturn, 1) := by decide +kernel
theorem dX12_sellWeight_0 : decode cX12_sellWeight 0 = .ok (.aload_n 0, 1) := by decide +kernel
theorem dX12_sellWeight_1 : decode cX12_sellWeight 1 = .ok (.iconst 0, 1) := by decide +kernel
theorem dX12_sellWeight_2 : decode cX12_sellWeight 2 = .ok (.putfield 63, 3) := by decide +kernel
theorem dX12_sellWeight_5 : decode cX12_sellWeight 5 = .ok (.aload_n 0, 1) := by decide +kernel
theorem dX12_sellWeight_6 : decode cX12_sellWeight 6 = .ok (.iload_n 1, 1) := by decide +kernel
theorem dX12_sellWeight_7 : decode cX12_sellWeight 7 = .ok (.iload_n 2, 1) := by decide +kernel
theorem dX12_sellWeight_8 : decode cX12_sellWeight 8 = .ok (.iload_n 3, 1) := by decide +kernel
theorem dX12_sellWeight_9 : decode cX12_sellWeight 9 = .ok (.invokevirtual 435, 3) := by decide +kernel
theorem dX12_sellWeight_12 : decode cX12_sellWeight 12 = .ok (.ifCond .ne 26, 3) := by decide +kernel
theorem dX12_sellWeight_15 : decode cX12_sellWeight 15 = .ok (.aload_n 0, 1) := by decide +kernel
theorem dX12_sellWeight_16 : decode cX12_sellWeight 16 = .ok (.aload_n 0, 1) := by decide +kernel
theorem dX12_sellWeight_17 : decode cX12_sellWeight 17 = .ok (.iload_n 1, 1) := by decide +kernel
theorem dX12_sellWeight_18 : decode cX12_sellWeight 18 = .ok (.iload_n 2, 1) := by decide +kernel
theorem dX12_sellWeight_19 : decode cX12_sellWeight 19 = .ok (.iload_n 3, 1) := by decide +kernel
theorem dX12_sellWeight_20 : decode cX12_sellWeight 20 = .ok (.invokevirtual 356, 3) := by decide +kernel
theorem dX12_sellWeight_23 : decode cX12_sellWeight 23 = .ok (.ifCond .eq 7, 3) := by decide +kernel
theorem dX12_sellWeight_26 : decode cX12_sellWeight 26 = .ok (.iconst 1, 1) := by decide +kernel
theorem dX12_sellWeight_27 : decode cX12_sellWeight 27 = .ok (.goto 4, 3) := by decide +kernel
theorem dX12_sellWeight_30 : decode cX12_sellWeight 30 = .ok (.iconst 0, 1) := by decide +kernel
theorem dX12_sellWeight_31 : decode cX12_sellWeight 31 = .ok (.iconst 3, 1) := by decide +kernel
theorem dX12_sellWeight_32 : decode cX12_sellWeight 32 = .ok (.invokevirtual 161, 3) := by decide +kernel
theorem dX12_sellWeight_35 : decode cX12_sellWeight 35 = .ok (.ifCond .eq 5, 3) := by decide +kernel
theorem dX12_sellWeight_38 : decode cX12_sellWeight 38 = .ok (.iconst 0, 1) := by decide +kernel
theorem dX12_sellWeight_39 : decode cX12_sellWeight 39 = .ok (.ireturn, 1) := by decide +kernel
theorem dX12_sellWeight_40 : decode cX12_sellWeight 40 = .ok (.aload_n 0, 1) := by decide +kernel
theorem dX12_sellWeight_41 : decode cX12_sellWeight 41 = .ok (.invokevirtual 414, 3) := by decide +kernel
theorem dX12_sellWeight_44 : decode cX12_sellWeight 44 = .ok (.aload_n 0, 1) := by decide +kernel
theorem dX12_sellWeight_45 : decode cX12_sellWeight 45 = .ok (.iload_n 1, 1) := by decide +kernel
theorem dX12_sellWeight_46 : decode cX12_sellWeight 46 = .ok (.iload_n 2, 1) := by decide +kernel
theorem dX12_sellWeight_47 : decode cX12_sellWeight 47 = .ok (.iload_n 3, 1) := by decide +kernel
theorem dX12_sellWeight_48 : decode cX12_sellWeight 48 = .ok (.invokevirtual 362, 3) := by decide +kernel
theorem dX12_sellWeight_51 : decode cX12_sellWeight 51 = .ok (.ireturn, 1) := by decide +kernel
theorem dX12_noPair_0 : decode cX12_noPair 0 = .ok (.aload_n 0, 1) := by decide +kernel
theorem dX12_noPair_1 : decode cX12_noPair 1 = .ok (.iload_n 1, 1) := by decide +kernel
theorem dX12_noPair_2 : decode cX12_noPair 2 = .ok (.invokevirtual 427, 3) := by decide +kernel
theorem dX12_noPair_5 : decode cX12_noPair 5 = .ok (.ifCond .ne 29, 3) := by decide +kernel
theorem dX12_noPair_8 : decode cX12_noPair 8 = .ok (.aload_n 0, 1) := by decide +kernel
theorem dX12_noPair_9 : decode cX12_noPair 9 = .ok (.iload_n 2, 1) := by decide +kernel
theorem dX12_noPair_10 : decode cX12_noPair 10 = .ok (.invokevirtual 427, 3) := by decide +kernel
theorem dX12_noPair_13 : decode cX12_noPair 13 = .ok (.ifCond .ne 21, 3) := by decide +kernel
theorem dX12_noPair_16 : decode cX12_noPair 16 = .ok (.aload_n 0, 1) := by decide +kernel
theorem dX12_noPair_17 : decode cX12_noPair 17 = .ok (.iload_n 1, 1) := by decide +kernel
theorem dX12_noPair_18 : decode cX12_noPair 18 = .ok (.iload_n 2, 1) := by decide +kernel
theorem dX12_noPair_19 : decode cX12_noPair 19 = .ok (.if_icmp .ne 7, 3) := by decide +kernel
theorem dX12_noPair_22 : decode cX12_noPair 22 = .ok (.iconst 1, 1) := by decide +kernel
theorem dX12_noPair_23 : decode cX12_noPair 23 = .ok (.goto 4, 3) := by decide +kernel
theorem dX12_noPair_26 : decode cX12_noPair 26 = .ok (.iconst 0, 1) := by decide +kernel
theorem dX12_noPair_27 : decode cX12_noPair 27 = .ok (.iconst 2, 1) := by decide +kernel
theorem dX12_noPair_28 : decode cX12_noPair 28 = .ok (.invokevirtual 161, 3) := by decide +kernel
theorem dX12_noPair_31 : decode cX12_noPair 31 = .ok (.ifCond .eq 7, 3) := by decide +kernel
theorem dX12_noPair_34 : decode cX12_noPair 34 = .ok (.iconst 1, 1) := by decide +kernel
theorem dX12_noPair_35 : decode cX12_noPair 35 = .ok (.goto 4, 3) := by decide +kernel
theorem dX12_noPair_38 : decode cX12_noPair 38 = .ok (.iconst 0, 1) := by decide +kernel
theorem dX12_noPair_39 : decode cX12_noPair 39 = .ok (.ireturn, 1) := by decide +kernel
theorem dX12_swapSeats_0 : decode cX12_swapSeats 0 = .ok (.aload_n 0, 1) := by decide +kernel
theorem dX12_swapSeats_1 : decode cX12_swapSeats 1 = .ok (.iconst 0, 1) := by decide +kernel
theorem dX12_swapSeats_2 : decode cX12_swapSeats 2 = .ok (.putfield 63, 3) := by decide +kernel
theorem dX12_swapSeats_5 : decode cX12_swapSeats 5 = .ok (.aload_n 0, 1) := by decide +kernel
theorem dX12_swapSeats_6 : decode cX12_swapSeats 6 = .ok (.iload_n 1, 1) := by decide +kernel
theorem dX12_swapSeats_7 : decode cX12_swapSeats 7 = .ok (.iload_n 2, 1) := by decide +kernel
theorem dX12_swapSeats_8 : decode cX12_swapSeats 8 = .ok (.invokevirtual 439, 3) := by decide +kernel
theorem dX12_swapSeats_11 : decode cX12_swapSeats 11 = .ok (.ifCond .ne 25, 3) := by decide +kernel
theorem dX12_swapSeats_14 : decode cX12_swapSeats 14 = .ok (.aload_n 0, 1) := by decide +kernel
theorem dX12_swapSeats_15 : decode cX12_swapSeats 15 = .ok (.aload_n 0, 1) := by decide +kernel
theorem dX12_swapSeats_16 : decode cX12_swapSeats 16 = .ok (.iload_n 1, 1) := by decide +kernel
theorem dX12_swapSeats_17 : decode cX12_swapSeats 17 = .ok (.iload_n 2, 1) := by decide +kernel
theorem dX12_swapSeats_18 : decode cX12_swapSeats 18 = .ok (.invokevirtual 359, 3) := by decide +kernel
theorem dX12_swapSeats_21 : decode cX12_swapSeats 21 = .ok (.ifCond .eq 7, 3) := by decide +kernel
theorem dX12_swapSeats_24 : decode cX12_swapSeats 24 = .ok (.iconst 1, 1) := by decide +kernel
theorem dX12_swapSeats_25 : decode cX12_swapSeats 25 = .ok (.goto 4, 3) := by decide +kernel
theorem dX12_swapSeats_28 : decode cX12_swapSeats 28 = .ok (.iconst 0, 1) := by decide +kernel
theorem dX12_swapSeats_29 : decode cX12_swapSeats 29 = .ok (.iconst 3, 1) := by decide +kernel
theorem dX12_swapSeats_30 : decode cX12_swapSeats 30 = .ok (.invokevirtual 161, 3) := by decide +kernel
theorem dX12_swapSeats_33 : decode cX12_swapSeats 33 = .ok (.ifCond .eq 5, 3) := by decide +kernel
theorem dX12_swapSeats_36 : decode cX12_swapSeats 36 = .ok (.iconst 0, 1) := by decide +kernel
theorem dX12_swapSeats_37 : decode cX12_swapSeats 37 = .ok (.ireturn, 1) := by decide +kernel
theorem dX12_swapSeats_38 : decode cX12_swapSeats 38 = .ok (.aload_n 0, 1) := by decide +kernel
theorem dX12_swapSeats_39 : decode cX12_swapSeats 39 = .ok (.invokevirtual 414, 3) := by decide +kernel
theorem dX12_swapSeats_42 : decode cX12_swapSeats 42 = .ok (.aload_n 0, 1) := by decide +kernel
theorem dX12_swapSeats_43 : decode cX12_swapSeats 43 = .ok (.iload_n 1, 1) := by decide +kernel
theorem dX12_swapSeats_44 : decode cX12_swapSeats 44 = .ok (.iload_n 2, 1) := by decide +kernel
theorem dX12_swapSeats_45 : decode cX12_swapSeats 45 = .ok (.invokevirtual 365, 3) := by decide +kernel
theorem dX12_swapSeats_48 : decode cX12_swapSeats 48 = .ok (.ireturn, 1) := by decide +kernel
theorem dX12_setWage_0 : decode cX12_setWage 0 = .ok (.aload_n 0, 1) := by decide +kernel
theorem dX12_setWage_1 : decode cX12_setWage 1 = .ok (.iconst 0, 1) := by decide +kernel
theorem dX12_setWage_2 : decode cX12_setWage 2 = .ok (.putfield 63, 3) := by decide +kernel
theorem dX12_setWage_5 : decode cX12_setWage 5 = .ok (.aload_n 0, 1) := by decide +kernel
theorem dX12_setWage_6 : decode cX12_setWage 6 = .ok (.iload_n 1, 1) := by decide +kernel
theorem dX12_setWage_7 : decode cX12_setWage 7 = .ok (.i2l, 1) := by decide +kernel
theorem dX12_setWage_8 : decode cX12_setWage 8 = .ok (.lconst 0, 1) := by decide +kernel
theorem dX12_setWage_9 : decode cX12_setWage 9 = .ok (.ldc2_w 442, 3) := by decide +kernel
theorem dX12_setWage_12 : decode cX12_setWage 12 = .ok (.invokestatic 86, 3) := by decide +kernel
theorem dX12_setWage_15 : decode cX12_setWage 15 = .ok (.ifCond .ne 7, 3) := by decide +kernel
theorem dX12_setWage_18 : decode cX12_setWage 18 = .ok (.iconst 1, 1) := by decide +kernel
theorem dX12_setWage_19 : decode cX12_setWage 19 = .ok (.goto 4, 3) := by decide +kernel
theorem dX12_setWage_22 : decode cX12_setWage 22 = .ok (.iconst 0, 1) := by decide +kernel
theorem dX12_setWage_23 : decode cX12_setWage 23 = .ok (.iconst 1, 1) := by decide +kernel
theorem dX12_setWage_24 : decode cX12_setWage 24 = .ok (.invokevirtual 161, 3) := by decide +kernel
theorem dX12_setWage_27 : decode cX12_setWage 27 = .ok (.ifCond .eq 5, 3) := by decide +kernel
theorem dX12_setWage_30 : decode cX12_setWage 30 = .ok (.iconst 0, 1) := by decide +kernel
theorem dX12_setWage_31 : decode cX12_setWage 31 = .ok (.ireturn, 1) := by decide +kernel
theorem dX12_setWage_32 : decode cX12_setWage 32 = .ok (.aload_n 0, 1) := by decide +kernel
theorem dX12_setWage_33 : decode cX12_setWage 33 = .ok (.invokevirtual 414, 3) := by decide +kernel
theorem dX12_setWage_36 : decode cX12_setWage 36 = .ok (.aload_n 0, 1) := by decide +kernel
theorem dX12_setWage_37 : decode cX12_setWage 37 = .ok (.iload_n 1, 1) := by decide +kernel
theorem dX12_setWage_38 : decode cX12_setWage 38 = .ok (.invokevirtual 368, 3) := by decide +kernel
theorem dX12_setWage_41 : decode cX12_setWage 41 = .ok (.ireturn, 1) := by decide +kernel
theorem dX12_advance_0 : decode cX12_advance 0 = .ok (.aload_n 0, 1) := by decide +kernel
theorem dX12_advance_1 : decode cX12_advance 1 = .ok (.iconst 0, 1) := by decide +kernel
theorem dX12_advance_2 : decode cX12_advance 2 = .ok (.putfield 63, 3) := by decide +kernel
theorem dX12_advance_5 : decode cX12_advance 5 = .ok (.aload_n 0, 1) := by decide +kernel
theorem dX12_advance_6 : decode cX12_advance 6 = .ok (.iload_n 1, 1) := by decide +kernel
theorem dX12_advance_7 : decode cX12_advance 7 = .ok (.i2l, 1) := by decide +kernel
theorem dX12_advance_8 : decode cX12_advance 8 = .ok (.lconst 1, 1) := by decide +kernel
theorem dX12_advance_9 : decode cX12_advance 9 = .ok (.ldc2_w 444, 3) := by decide +kernel
theorem dX12_advance_12 : decode cX12_advance 12 = .ok (.invokestatic 86, 3) := by decide +kernel
theorem dX12_advance_15 : decode cX12_advance 15 = .ok (.ifCond .ne 7, 3) := by decide +kernel
theorem dX12_advance_18 : decode cX12_advance 18 = .ok (.iconst 1, 1) := by decide +kernel
theorem dX12_advance_19 : decode cX12_advance 19 = .ok (.goto 4, 3) := by decide +kernel
theorem dX12_advance_22 : decode cX12_advance 22 = .ok (.iconst 0, 1) := by decide +kernel
theorem dX12_advance_23 : decode cX12_advance 23 = .ok (.iconst 1, 1) := by decide +kernel
theorem dX12_advance_24 : decode cX12_advance 24 = .ok (.invokevirtual 161, 3) := by decide +kernel
theorem dX12_advance_27 : decode cX12_advance 27 = .ok (.ifCond .ne 31, 3) := by decide +kernel
theorem dX12_advance_30 : decode cX12_advance 30 = .ok (.aload_n 0, 1) := by decide +kernel
theorem dX12_advance_31 : decode cX12_advance 31 = .ok (.aload_n 0, 1) := by decide +kernel
theorem dX12_advance_32 : decode cX12_advance 32 = .ok (.getfield 7, 3) := by decide +kernel
theorem dX12_advance_35 : decode cX12_advance 35 = .ok (.bipush 6, 2) := by decide +kernel
theorem dX12_advance_37 : decode cX12_advance 37 = .ok (.iaload, 1) := by decide +kernel
theorem dX12_advance_38 : decode cX12_advance 38 = .ok (.iload_n 1, 1) := by decide +kernel
theorem dX12_advance_39 : decode cX12_advance 39 = .ok (.iadd, 1) := by decide +kernel
theorem dX12_advance_40 : decode cX12_advance 40 = .ok (.sipush 9999, 3) := by decide +kernel
theorem dX12_advance_43 : decode cX12_advance 43 = .ok (.if_icmp .le 7, 3) := by decide +kernel
theorem dX12_advance_46 : decode cX12_advance 46 = .ok (.iconst 1, 1) := by decide +kernel
theorem dX12_advance_47 : decode cX12_advance 47 = .ok (.goto 4, 3) := by decide +kernel
theorem dX12_advance_50 : decode cX12_advance 50 = .ok (.iconst 0, 1) := by decide +kernel
theorem dX12_advance_51 : decode cX12_advance 51 = .ok (.iconst 2, 1) := by decide +kernel
theorem dX12_advance_52 : decode cX12_advance 52 = .ok (.invokevirtual 161, 3) := by decide +kernel
theorem dX12_advance_55 : decode cX12_advance 55 = .ok (.ifCond .eq 5, 3) := by decide +kernel
theorem dX12_advance_58 : decode cX12_advance 58 = .ok (.iconst 0, 1) := by decide +kernel
theorem dX12_advance_59 : decode cX12_advance 59 = .ok (.ireturn, 1) := by decide +kernel
theorem dX12_advance_60 : decode cX12_advance 60 = .ok (.aload_n 0, 1) := by decide +kernel
theorem dX12_advance_61 : decode cX12_advance 61 = .ok (.invokevirtual 414, 3) := by decide +kernel
theorem dX12_advance_64 : decode cX12_advance 64 = .ok (.aload_n 0, 1) := by decide +kernel
theorem dX12_advance_65 : decode cX12_advance 65 = .ok (.iload_n 1, 1) := by decide +kernel
theorem dX12_advance_66 : decode cX12_advance 66 = .ok (.invokevirtual 371, 3) := by decide +kernel
theorem dX12_advance_69 : decode cX12_advance 69 = .ok (.ireturn, 1) := by decide +kernel
theorem dX12_undoCount_0 : decode cX12_undoCount 0 = .ok (.aload_n 0, 1) := by decide +kernel
theorem dX12_undoCount_1 : decode cX12_undoCount 1 = .ok (.iconst 0, 1) := by decide +kernel
theorem dX12_undoCount_2 : decode cX12_undoCount 2 = .ok (.putfield 63, 3) := by decide +kernel
theorem dX12_undoCount_5 : decode cX12_undoCount 5 = .ok (.aload_n 0, 1) := by decide +kernel
theorem dX12_undoCount_6 : decode cX12_undoCount 6 = .ok (.getfield 295, 3) := by decide +kernel
theorem dX12_undoCount_9 : decode cX12_undoCount 9 = .ok (.ireturn, 1) := by decide +kernel
theorem dX12_undo_0 : decode cX12_undo 0 = .ok (.aload_n 0, 1) := by decide +kernel
theorem dX12_undo_1 : decode cX12_undo 1 = .ok (.iconst 0, 1) := by decide +kernel
theorem dX12_undo_2 : decode cX12_undo 2 = .ok (.putfield 63, 3) := by decide +kernel
theorem dX12_undo_5 : decode cX12_undo 5 = .ok (.aload_n 0, 1) := by decide +kernel
theorem dX12_undo_6 : decode cX12_undo 6 = .ok (.aload_n 0, 1) := by decide +kernel
theorem dX12_undo_7 : decode cX12_undo 7 = .ok (.getfield 295, 3) := by decide +kernel
theorem dX12_undo_10 : decode cX12_undo 10 = .ok (.ifCond .ne 7, 3) := by decide +kernel
theorem dX12_undo_13 : decode cX12_undo 13 = .ok (.iconst 1, 1) := by decide +kernel
theorem dX12_undo_14 : decode cX12_undo 14 = .ok (.goto 4, 3) := by decide +kernel
theorem dX12_undo_17 : decode cX12_undo 17 = .ok (.iconst 0, 1) := by decide +kernel
theorem dX12_undo_18 : decode cX12_undo 18 = .ok (.iconst 1, 1) := by decide +kernel
theorem dX12_undo_19 : decode cX12_undo 19 = .ok (.invokevirtual 161, 3) := by decide +kernel
theorem dX12_undo_22 : decode cX12_undo 22 = .ok (.ifCond .eq 5, 3) := by decide +kernel
theorem dX12_undo_25 : decode cX12_undo 25 = .ok (.iconst 0, 1) := by decide +kernel
theorem dX12_undo_26 : decode cX12_undo 26 = .ok (.ireturn, 1) := by decide +kernel
theorem dX12_undo_27 : decode cX12_undo 27 = .ok (.aload_n 0, 1) := by decide +kernel
theorem dX12_undo_28 : decode cX12_undo 28 = .ok (.dup, 1) := by decide +kernel
theorem dX12_undo_29 : decode cX12_undo 29 = .ok (.getfield 295, 3) := by decide +kernel
theorem dX12_undo_32 : decode cX12_undo 32 = .ok (.iconst 1, 1) := by decide +kernel
theorem dX12_undo_33 : decode cX12_undo 33 = .ok (.isub, 1) := by decide +kernel
theorem dX12_undo_34 : decode cX12_undo 34 = .ok (.putfield 295, 3) := by decide +kernel
theorem dX12_undo_37 : decode cX12_undo 37 = .ok (.aload_n 0, 1) := by decide +kernel
theorem dX12_undo_38 : decode cX12_undo 38 = .ok (.getfield 16, 3) := by decide +kernel
theorem dX12_undo_41 : decode cX12_undo 41 = .ok (.sipush 293, 3) := by decide +kernel
theorem dX12_undo_44 : decode cX12_undo 44 = .ok (.aload_n 0, 1) := by decide +kernel
theorem dX12_undo_45 : decode cX12_undo 45 = .ok (.getfield 295, 3) := by decide +kernel
theorem dX12_undo_48 : decode cX12_undo 48 = .ok (.imul, 1) := by decide +kernel
theorem dX12_undo_49 : decode cX12_undo 49 = .ok (.aload_n 0, 1) := by decide +kernel
theorem dX12_undo_50 : decode cX12_undo 50 = .ok (.getfield 7, 3) := by decide +kernel
theorem dX12_undo_53 : decode cX12_undo 53 = .ok (.iconst 0, 1) := by decide +kernel
theorem dX12_undo_54 : decode cX12_undo 54 = .ok (.invokestatic 282, 3) := by decide +kernel
theorem dX12_undo_57 : decode cX12_undo 57 = .ok (.aload_n 0, 1) := by decide +kernel
theorem dX12_undo_58 : decode cX12_undo 58 = .ok (.getfield 295, 3) := by decide +kernel
theorem dX12_undo_61 : decode cX12_undo 61 = .ok (.ireturn, 1) := by decide +kernel
theorem dX12_noSlot_0 : decode cX12_noSlot 0 = .ok (.aload_n 0, 1) := by decide +kernel
theorem dX12_noSlot_1 : decode cX12_noSlot 1 = .ok (.iload_n 1, 1) := by decide +kernel
theorem dX12_noSlot_2 : decode cX12_noSlot 2 = .ok (.i2l, 1) := by decide +kernel
theorem dX12_noSlot_3 : decode cX12_noSlot 3 = .ok (.lconst 0, 1) := by decide +kernel
theorem dX12_noSlot_4 : decode cX12_noSlot 4 = .ok (.lconst 1, 1) := by decide +kernel
theorem dX12_noSlot_5 : decode cX12_noSlot 5 = .ok (.invokestatic 86, 3) := by decide +kernel
theorem dX12_noSlot_8 : decode cX12_noSlot 8 = .ok (.ifCond .ne 7, 3) := by decide +kernel
theorem dX12_noSlot_11 : decode cX12_noSlot 11 = .ok (.iconst 1, 1) := by decide +kernel
theorem dX12_noSlot_12 : decode cX12_noSlot 12 = .ok (.goto 4, 3) := by decide +kernel
