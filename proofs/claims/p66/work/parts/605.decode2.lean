theorem dX6_init_21 : decode cX6_init 21 = .ok (.bipush 40, 2) := by decide +kernel
theorem dX6_init_23 : decode cX6_init 23 = .ok (.newarray .int, 2) := by decide +kernel
theorem dX6_init_25 : decode cX6_init 25 = .ok (.putfield 21, 3) := by decide +kernel
theorem dX6_init_28 : decode cX6_init 28 = .ok (.iconst 0, 1) := by decide +kernel
theorem dX6_init_29 : decode cX6_init 29 = .ok (.istore_n 1, 1) := by decide +kernel
theorem dX6_init_30 : decode cX6_init 30 = .ok (.iload_n 1, 1) := by decide +kernel
theorem dX6_init_31 : decode cX6_init 31 = .ok (.aload_n 0, 1) := by decide +kernel
theorem dX6_init_32 : decode cX6_init 32 = .ok (.getfield 11, 3) := by decide +kernel
theorem dX6_init_35 : decode cX6_init 35 = .ok (.arraylength, 1) := by decide +kernel
theorem dX6_init_36 : decode cX6_init 36 = .ok (.if_icmp .ge 22, 3) := by decide +kernel
theorem dX6_init_39 : decode cX6_init 39 = .ok (.aload_n 0, 1) := by decide +kernel
theorem dX6_init_40 : decode cX6_init 40 = .ok (.getfield 11, 3) := by decide +kernel
theorem dX6_init_43 : decode cX6_init 43 = .ok (.iload_n 1, 1) := by decide +kernel
theorem dX6_init_44 : decode cX6_init 44 = .ok (.new 9, 3) := by decide +kernel
theorem dX6_init_47 : decode cX6_init 47 = .ok (.dup, 1) := by decide +kernel
theorem dX6_init_48 : decode cX6_init 48 = .ok (.invokespecial 24, 3) := by decide +kernel
theorem dX6_init_51 : decode cX6_init 51 = .ok (.aastore, 1) := by decide +kernel
theorem dX6_init_52 : decode cX6_init 52 = .ok (.iinc 1 1, 3) := by decide +kernel
theorem dX6_init_55 : decode cX6_init 55 = .ok (.goto (-25), 3) := by decide +kernel
theorem dX6_init_58 : decode cX6_init 58 = .ok (.return_, 1) := by decide +kernel
theorem dX7_read_0 : decode cX7_read 0 = .ok (.aload_n 1, 1) := by decide +kernel
theorem dX7_read_1 : decode cX7_read 1 = .ok (.invokevirtual 9, 3) := by decide +kernel
theorem dX7_read_4 : decode cX7_read 4 = .ok (.aload_n 0, 1) := by decide +kernel
theorem dX7_read_5 : decode cX7_read 5 = .ok (.aload_n 1, 1) := by decide +kernel
theorem dX7_read_6 : decode cX7_read 6 = .ok (.invokestatic 14, 3) := by decide +kernel
theorem dX7_read_9 : decode cX7_read 9 = .ok (.iconst 0, 1) := by decide +kernel
theorem dX7_read_10 : decode cX7_read 10 = .ok (.istore_n 2, 1) := by decide +kernel
theorem dX7_read_11 : decode cX7_read 11 = .ok (.iload_n 2, 1) := by decide +kernel
theorem dX7_read_12 : decode cX7_read 12 = .ok (.iconst 5, 1) := by decide +kernel
theorem dX7_read_13 : decode cX7_read 13 = .ok (.if_icmp .ge 23, 3) := by decide +kernel
theorem dX7_read_16 : decode cX7_read 16 = .ok (.aload_n 0, 1) := by decide +kernel
theorem dX7_read_17 : decode cX7_read 17 = .ok (.ldc 20, 2) := by decide +kernel
theorem dX7_read_19 : decode cX7_read 19 = .ok (.invokevirtual 22, 3) := by decide +kernel
theorem dX7_read_22 : decode cX7_read 22 = .ok (.ifCond .eq 14, 3) := by decide +kernel
theorem dX7_read_25 : decode cX7_read 25 = .ok (.aload_n 0, 1) := by decide +kernel
theorem dX7_read_26 : decode cX7_read 26 = .ok (.aload_n 1, 1) := by decide +kernel
theorem dX7_read_27 : decode cX7_read 27 = .ok (.invokestatic 28, 3) := by decide +kernel
theorem dX7_read_30 : decode cX7_read 30 = .ok (.iinc 2 1, 3) := by decide +kernel
theorem dX7_read_33 : decode cX7_read 33 = .ok (.goto (-22), 3) := by decide +kernel
theorem dX7_read_36 : decode cX7_read 36 = .ok (.aload_n 0, 1) := by decide +kernel
theorem dX7_read_37 : decode cX7_read 37 = .ok (.ldc 20, 2) := by decide +kernel
theorem dX7_read_39 : decode cX7_read 39 = .ok (.invokevirtual 22, 3) := by decide +kernel
theorem dX7_read_42 : decode cX7_read 42 = .ok (.ifCond .eq 8, 3) := by decide +kernel
theorem dX7_read_45 : decode cX7_read 45 = .ok (.aload_n 0, 1) := by decide +kernel
theorem dX7_read_46 : decode cX7_read 46 = .ok (.iconst 5, 1) := by decide +kernel
theorem dX7_read_47 : decode cX7_read 47 = .ok (.invokevirtual 31, 3) := by decide +kernel
theorem dX7_read_50 : decode cX7_read 50 = .ok (.iconst 0, 1) := by decide +kernel
theorem dX7_read_51 : decode cX7_read 51 = .ok (.istore_n 2, 1) := by decide +kernel
theorem dX7_read_52 : decode cX7_read 52 = .ok (.iload_n 2, 1) := by decide +kernel
theorem dX7_read_53 : decode cX7_read 53 = .ok (.bipush 24, 2) := by decide +kernel
theorem dX7_read_55 : decode cX7_read 55 = .ok (.if_icmp .ge 23, 3) := by decide +kernel
theorem dX7_read_58 : decode cX7_read 58 = .ok (.aload_n 0, 1) := by decide +kernel
theorem dX7_read_59 : decode cX7_read 59 = .ok (.ldc 35, 2) := by decide +kernel
theorem dX7_read_61 : decode cX7_read 61 = .ok (.invokevirtual 22, 3) := by decide +kernel
theorem dX7_read_64 : decode cX7_read 64 = .ok (.ifCond .eq 14, 3) := by decide +kernel
theorem dX7_read_67 : decode cX7_read 67 = .ok (.aload_n 0, 1) := by decide +kernel
theorem dX7_read_68 : decode cX7_read 68 = .ok (.aload_n 1, 1) := by decide +kernel
theorem dX7_read_69 : decode cX7_read 69 = .ok (.invokestatic 37, 3) := by decide +kernel
theorem dX7_read_72 : decode cX7_read 72 = .ok (.iinc 2 1, 3) := by decide +kernel
theorem dX7_read_75 : decode cX7_read 75 = .ok (.goto (-23), 3) := by decide +kernel
theorem dX7_read_78 : decode cX7_read 78 = .ok (.aload_n 0, 1) := by decide +kernel
theorem dX7_read_79 : decode cX7_read 79 = .ok (.ldc 35, 2) := by decide +kernel
theorem dX7_read_81 : decode cX7_read 81 = .ok (.invokevirtual 22, 3) := by decide +kernel
theorem dX7_read_84 : decode cX7_read 84 = .ok (.ifCond .eq 8, 3) := by decide +kernel
theorem dX7_read_87 : decode cX7_read 87 = .ok (.aload_n 0, 1) := by decide +kernel
theorem dX7_read_88 : decode cX7_read 88 = .ok (.iconst 5, 1) := by decide +kernel
theorem dX7_read_89 : decode cX7_read 89 = .ok (.invokevirtual 31, 3) := by decide +kernel
theorem dX7_read_92 : decode cX7_read 92 = .ok (.iconst 0, 1) := by decide +kernel
theorem dX7_read_93 : decode cX7_read 93 = .ok (.istore_n 2, 1) := by decide +kernel
theorem dX7_read_94 : decode cX7_read 94 = .ok (.iload_n 2, 1) := by decide +kernel
theorem dX7_read_95 : decode cX7_read 95 = .ok (.bipush 24, 2) := by decide +kernel
theorem dX7_read_97 : decode cX7_read 97 = .ok (.if_icmp .gt 23, 3) := by decide +kernel
theorem dX7_read_100 : decode cX7_read 100 = .ok (.aload_n 0, 1) := by decide +kernel
theorem dX7_read_101 : decode cX7_read 101 = .ok (.ldc 40, 2) := by decide +kernel
theorem dX7_read_103 : decode cX7_read 103 = .ok (.invokevirtual 22, 3) := by decide +kernel
theorem dX7_read_106 : decode cX7_read 106 = .ok (.ifCond .eq 14, 3) := by decide +kernel
theorem dX7_read_109 : decode cX7_read 109 = .ok (.aload_n 0, 1) := by decide +kernel
theorem dX7_read_110 : decode cX7_read 110 = .ok (.aload_n 1, 1) := by decide +kernel
theorem dX7_read_111 : decode cX7_read 111 = .ok (.invokestatic 42, 3) := by decide +kernel
theorem dX7_read_114 : decode cX7_read 114 = .ok (.iinc 2 1, 3) := by decide +kernel
theorem dX7_read_117 : decode cX7_read 117 = .ok (.goto (-23), 3) := by decide +kernel
theorem dX7_read_120 : decode cX7_read 120 = .ok (.aload_n 0, 1) := by decide +kernel
theorem dX7_read_121 : decode cX7_read 121 = .ok (.invokevirtual 45, 3) := by decide +kernel
theorem dX7_read_124 : decode cX7_read 124 = .ok (.return_, 1) := by decide +kernel
theorem dX7_readMarket_0 : decode cX7_readMarket 0 = .ok (.aload_n 0, 1) := by decide +kernel
theorem dX7_readMarket_1 : decode cX7_readMarket 1 = .ok (.ldc 48, 2) := by decide +kernel
theorem dX7_readMarket_3 : decode cX7_readMarket 3 = .ok (.invokevirtual 50, 3) := by decide +kernel
theorem dX7_readMarket_6 : decode cX7_readMarket 6 = .ok (.aload_n 1, 1) := by decide +kernel
theorem dX7_readMarket_7 : decode cX7_readMarket 7 = .ok (.aload_n 0, 1) := by decide +kernel
theorem dX7_readMarket_8 : decode cX7_readMarket 8 = .ok (.iconst 0, 1) := by decide +kernel
theorem dX7_readMarket_9 : decode cX7_readMarket 9 = .ok (.bipush 20, 2) := by decide +kernel
theorem dX7_readMarket_11 : decode cX7_readMarket 11 = .ok (.invokevirtual 54, 3) := by decide +kernel
theorem dX7_readMarket_14 : decode cX7_readMarket 14 = .ok (.putfield 58, 3) := by decide +kernel
theorem dX7_readMarket_17 : decode cX7_readMarket 17 = .ok (.aload_n 1, 1) := by decide +kernel
theorem dX7_readMarket_18 : decode cX7_readMarket 18 = .ok (.aload_n 0, 1) := by decide +kernel
theorem dX7_readMarket_19 : decode cX7_readMarket 19 = .ok (.iconst 0, 1) := by decide +kernel
theorem dX7_readMarket_20 : decode cX7_readMarket 20 = .ok (.bipush 99, 2) := by decide +kernel
theorem dX7_readMarket_22 : decode cX7_readMarket 22 = .ok (.invokevirtual 54, 3) := by decide +kernel
theorem dX7_readMarket_25 : decode cX7_readMarket 25 = .ok (.putfield 62, 3) := by decide +kernel
theorem dX7_readMarket_28 : decode cX7_readMarket 28 = .ok (.aload_n 1, 1) := by decide +kernel
theorem dX7_readMarket_29 : decode cX7_readMarket 29 = .ok (.aload_n 0, 1) := by decide +kernel
theorem dX7_readMarket_30 : decode cX7_readMarket 30 = .ok (.iconst 0, 1) := by decide +kernel
theorem dX7_readMarket_31 : decode cX7_readMarket 31 = .ok (.bipush 99, 2) := by decide +kernel
theorem dX7_readMarket_33 : decode cX7_readMarket 33 = .ok (.invokevirtual 54, 3) := by decide +kernel
theorem dX7_readMarket_36 : decode cX7_readMarket 36 = .ok (.putfield 65, 3) := by decide +kernel
theorem dX7_readMarket_39 : decode cX7_readMarket 39 = .ok (.aload_n 1, 1) := by decide +kernel
theorem dX7_readMarket_40 : decode cX7_readMarket 40 = .ok (.aload_n 0, 1) := by decide +kernel
theorem dX7_readMarket_41 : decode cX7_readMarket 41 = .ok (.iconst 1, 1) := by decide +kernel
theorem dX7_readMarket_42 : decode cX7_readMarket 42 = .ok (.sipush 999, 3) := by decide +kernel
theorem dX7_readMarket_45 : decode cX7_readMarket 45 = .ok (.invokevirtual 54, 3) := by decide +kernel
theorem dX7_readMarket_48 : decode cX7_readMarket 48 = .ok (.putfield 68, 3) := by decide +kernel
theorem dX7_readMarket_51 : decode cX7_readMarket 51 = .ok (.aload_n 1, 1) := by decide +kernel
theorem dX7_readMarket_52 : decode cX7_readMarket 52 = .ok (.aload_n 0, 1) := by decide +kernel
theorem dX7_readMarket_53 : decode cX7_readMarket 53 = .ok (.iconst 0, 1) := by decide +kernel
theorem dX7_readMarket_54 : decode cX7_readMarket 54 = .ok (.sipush 999, 3) := by decide +kernel
theorem dX7_readMarket_57 : decode cX7_readMarket 57 = .ok (.invokevirtual 54, 3) := by decide +kernel
theorem dX7_readMarket_60 : decode cX7_readMarket 60 = .ok (.putfield 71, 3) := by decide +kernel
theorem dX7_readMarket_63 : decode cX7_readMarket 63 = .ok (.aload_n 1, 1) := by decide +kernel
theorem dX7_readMarket_64 : decode cX7_readMarket 64 = .ok (.aload_n 0, 1) := by decide +kernel
theorem dX7_readMarket_65 : decode cX7_readMarket 65 = .ok (.iconst 0, 1) := by decide +kernel
theorem dX7_readMarket_66 : decode cX7_readMarket 66 = .ok (.ldc 74, 2) := by decide +kernel
theorem dX7_readMarket_68 : decode cX7_readMarket 68 = .ok (.invokevirtual 54, 3) := by decide +kernel
theorem dX7_readMarket_71 : decode cX7_readMarket 71 = .ok (.putfield 75, 3) := by decide +kernel
theorem dX7_readMarket_74 : decode cX7_readMarket 74 = .ok (.aload_n 1, 1) := by decide +kernel
theorem dX7_readMarket_75 : decode cX7_readMarket 75 = .ok (.aload_n 1, 1) := by decide +kernel
theorem dX7_readMarket_76 : decode cX7_readMarket 76 = .ok (.getfield 75, 3) := by decide +kernel
theorem dX7_readMarket_79 : decode cX7_readMarket 79 = .ok (.putfield 78, 3) := by decide +kernel
theorem dX7_readMarket_82 : decode cX7_readMarket 82 = .ok (.aload_n 0, 1) := by decide +kernel
theorem dX7_readMarket_83 : decode cX7_readMarket 83 = .ok (.bipush 59, 2) := by decide +kernel
theorem dX7_readMarket_85 : decode cX7_readMarket 85 = .ok (.invokevirtual 81, 3) := by decide +kernel
theorem dX7_readMarket_88 : decode cX7_readMarket 88 = .ok (.return_, 1) := by decide +kernel
theorem dX7_readBoard_0 : decode cX7_readBoard 0 = .ok (.aload_n 0, 1) := by decide +kernel
theorem dX7_readBoard_1 : decode cX7_readBoard 1 = .ok (.invokevirtual 85, 3) := by decide +kernel
theorem dX7_readBoard_4 : decode cX7_readBoard 4 = .ok (.aload_n 0, 1) := by decide +kernel
theorem dX7_readBoard_5 : decode cX7_readBoard 5 = .ok (.iconst 1, 1) := by decide +kernel
theorem dX7_readBoard_6 : decode cX7_readBoard 6 = .ok (.bipush 6, 2) := by decide +kernel
theorem dX7_readBoard_8 : decode cX7_readBoard 8 = .ok (.invokevirtual 54, 3) := by decide +kernel
theorem dX7_readBoard_11 : decode cX7_readBoard 11 = .ok (.istore_n 2, 1) := by decide +kernel
theorem dX7_readBoard_12 : decode cX7_readBoard 12 = .ok (.aload_n 0, 1) := by decide +kernel
theorem dX7_readBoard_13 : decode cX7_readBoard 13 = .ok (.iconst 1, 1) := by decide +kernel
theorem dX7_readBoard_14 : decode cX7_readBoard 14 = .ok (.bipush 99, 2) := by decide +kernel
theorem dX7_readBoard_16 : decode cX7_readBoard 16 = .ok (.invokevirtual 54, 3) := by decide +kernel
theorem dX7_readBoard_19 : decode cX7_readBoard 19 = .ok (.istore_n 3, 1) := by decide +kernel
theorem dX7_readBoard_20 : decode cX7_readBoard 20 = .ok (.aload_n 0, 1) := by decide +kernel
theorem dX7_readBoard_21 : decode cX7_readBoard 21 = .ok (.iconst 0, 1) := by decide +kernel
theorem dX7_readBoard_22 : decode cX7_readBoard 22 = .ok (.sipush 999, 3) := by decide +kernel
theorem dX7_readBoard_25 : decode cX7_readBoard 25 = .ok (.invokevirtual 54, 3) := by decide +kernel
theorem dX7_readBoard_28 : decode cX7_readBoard 28 = .ok (.istore 4, 2) := by decide +kernel
theorem dX7_readBoard_30 : decode cX7_readBoard 30 = .ok (.aload_n 0, 1) := by decide +kernel
theorem dX7_readBoard_31 : decode cX7_readBoard 31 = .ok (.bipush 59, 2) := by decide +kernel
theorem dX7_readBoard_33 : decode cX7_readBoard 33 = .ok (.invokevirtual 81, 3) := by decide +kernel
theorem dX7_readBoard_36 : decode cX7_readBoard 36 = .ok (.aload_n 0, 1) := by decide +kernel
theorem dX7_readBoard_37 : decode cX7_readBoard 37 = .ok (.invokevirtual 88, 3) := by decide +kernel
theorem dX7_readBoard_40 : decode cX7_readBoard 40 = .ok (.ifCond .ne 11, 3) := by decide +kernel
theorem dX7_readBoard_43 : decode cX7_readBoard 43 = .ok (.aload_n 1, 1) := by decide +kernel
theorem dX7_readBoard_44 : decode cX7_readBoard 44 = .ok (.iload_n 2, 1) := by decide +kernel
theorem dX7_readBoard_45 : decode cX7_readBoard 45 = .ok (.iload_n 3, 1) := by decide +kernel
theorem dX7_readBoard_46 : decode cX7_readBoard 46 = .ok (.iload 4, 2) := by decide +kernel
theorem dX7_readBoard_48 : decode cX7_readBoard 48 = .ok (.invokevirtual 92, 3) := by decide +kernel
theorem dX7_readBoard_51 : decode cX7_readBoard 51 = .ok (.return_, 1) := by decide +kernel
theorem dX7_readTrader_0 : decode cX7_readTrader 0 = .ok (.aload_n 0, 1) := by decide +kernel
theorem dX7_readTrader_1 : decode cX7_readTrader 1 = .ok (.invokevirtual 85, 3) := by decide +kernel
theorem dX7_readTrader_4 : decode cX7_readTrader 4 = .ok (.aload_n 0, 1) := by decide +kernel
theorem dX7_readTrader_5 : decode cX7_readTrader 5 = .ok (.invokevirtual 96, 3) := by decide +kernel
theorem dX7_readTrader_8 : decode cX7_readTrader 8 = .ok (.lstore_n 2, 1) := by decide +kernel
theorem dX7_readTrader_9 : decode cX7_readTrader 9 = .ok (.aload_n 1, 1) := by decide +kernel
theorem dX7_readTrader_10 : decode cX7_readTrader 10 = .ok (.lload_n 2, 1) := by decide +kernel
theorem dX7_readTrader_11 : decode cX7_readTrader 11 = .ok (.invokevirtual 100, 3) := by decide +kernel
theorem dX7_readTrader_14 : decode cX7_readTrader 14 = .ok (.ifnull 8, 3) := by decide +kernel
theorem dX7_readTrader_17 : decode cX7_readTrader 17 = .ok (.aload_n 0, 1) := by decide +kernel
theorem dX7_readTrader_18 : decode cX7_readTrader 18 = .ok (.iconst 3, 1) := by decide +kernel
theorem dX7_readTrader_19 : decode cX7_readTrader 19 = .ok (.invokevirtual 104, 3) := by decide +kernel
theorem dX7_readTrader_22 : decode cX7_readTrader 22 = .ok (.aload_n 0, 1) := by decide +kernel
theorem dX7_readTrader_23 : decode cX7_readTrader 23 = .ok (.iconst 1, 1) := by decide +kernel
theorem dX7_readTrader_24 : decode cX7_readTrader 24 = .ok (.bipush 99, 2) := by decide +kernel
theorem dX7_readTrader_26 : decode cX7_readTrader 26 = .ok (.invokevirtual 54, 3) := by decide +kernel
theorem dX7_readTrader_29 : decode cX7_readTrader 29 = .ok (.istore 4, 2) := by decide +kernel
theorem dX7_readTrader_31 : decode cX7_readTrader 31 = .ok (.aload_n 0, 1) := by decide +kernel
theorem dX7_readTrader_32 : decode cX7_readTrader 32 = .ok (.iconst 0, 1) := by decide +kernel
theorem dX7_readTrader_33 : decode cX7_readTrader 33 = .ok (.sipush 9999, 3) := by decide +kernel
theorem dX7_readTrader_36 : decode cX7_readTrader 36 = .ok (.invokevirtual 54, 3) := by decide +kernel
theorem dX7_readTrader_39 : decode cX7_readTrader 39 = .ok (.istore 5, 2) := by decide +kernel
theorem dX7_readTrader_41 : decode cX7_readTrader 41 = .ok (.aload_n 0, 1) := by decide +kernel
theorem dX7_readTrader_42 : decode cX7_readTrader 42 = .ok (.iconst 0, 1) := by decide +kernel
theorem dX7_readTrader_43 : decode cX7_readTrader 43 = .ok (.aload_n 1, 1) := by decide +kernel
theorem dX7_readTrader_44 : decode cX7_readTrader 44 = .ok (.getfield 68, 3) := by decide +kernel
theorem dX7_readTrader_47 : decode cX7_readTrader 47 = .ok (.invokevirtual 54, 3) := by decide +kernel
theorem dX7_readTrader_50 : decode cX7_readTrader 50 = .ok (.istore 6, 2) := by decide +kernel
theorem dX7_readTrader_52 : decode cX7_readTrader 52 = .ok (.aload_n 0, 1) := by decide +kernel
theorem dX7_readTrader_53 : decode cX7_readTrader 53 = .ok (.bipush 59, 2) := by decide +kernel
theorem dX7_readTrader_55 : decode cX7_readTrader 55 = .ok (.invokevirtual 81, 3) := by decide +kernel
theorem dX7_readTrader_58 : decode cX7_readTrader 58 = .ok (.aload_n 0, 1) := by decide +kernel
theorem dX7_readTrader_59 : decode cX7_readTrader 59 = .ok (.invokevirtual 88, 3) := by decide +kernel
theorem dX7_readTrader_62 : decode cX7_readTrader 62 = .ok (.ifCond .ne 15, 3) := by decide +kernel
theorem dX7_readTrader_65 : decode cX7_readTrader 65 = .ok (.aload_n 1, 1) := by decide +kernel
theorem dX7_readTrader_66 : decode cX7_readTrader 66 = .ok (.lload_n 2, 1) := by decide +kernel
theorem dX7_readTrader_67 : decode cX7_readTrader 67 = .ok (.iload 4, 2) := by decide +kernel
theorem dX7_readTrader_69 : decode cX7_readTrader 69 = .ok (.iload 5, 2) := by decide +kernel
theorem dX7_readTrader_71 : decode cX7_readTrader 71 = .ok (.iload 6, 2) := by decide +kernel
theorem dX7_readTrader_73 : decode cX7_readTrader 73 = .ok (.invokevirtual 107, 3) := by decide +kernel
theorem dX7_readTrader_76 : decode cX7_readTrader 76 = .ok (.pop, 1) := by decide +kernel
theorem dX7_readTrader_77 : decode cX7_readTrader 77 = .ok (.return_, 1) := by decide +kernel
theorem dX7_readSeat_0 : decode cX7_readSeat 0 = .ok (.aload_n 0, 1) := by decide +kernel
theorem dX7_readSeat_1 : decode cX7_readSeat 1 = .ok (.invokevirtual 85, 3) := by decide +kernel
theorem dX7_readSeat_4 : decode cX7_readSeat 4 = .ok (.aload_n 1, 1) := by decide +kernel
theorem dX7_readSeat_5 : decode cX7_readSeat 5 = .ok (.aload_n 0, 1) := by decide +kernel
theorem dX7_readSeat_6 : decode cX7_readSeat 6 = .ok (.invokevirtual 96, 3) := by decide +kernel
theorem dX7_readSeat_9 : decode cX7_readSeat 9 = .ok (.invokevirtual 100, 3) := by decide +kernel
theorem dX7_readSeat_12 : decode cX7_readSeat 12 = .ok (.astore_n 2, 1) := by decide +kernel
theorem dX7_readSeat_13 : decode cX7_readSeat 13 = .ok (.aload_n 2, 1) := by decide +kernel
theorem dX7_readSeat_14 : decode cX7_readSeat 14 = .ok (.ifnonnull 11, 3) := by decide +kernel
theorem dX7_readSeat_17 : decode cX7_readSeat 17 = .ok (.aload_n 0, 1) := by decide +kernel
theorem dX7_readSeat_18 : decode cX7_readSeat 18 = .ok (.iconst 4, 1) := by decide +kernel
theorem dX7_readSeat_19 : decode cX7_readSeat 19 = .ok (.invokevirtual 104, 3) := by decide +kernel
theorem dX7_readSeat_22 : decode cX7_readSeat 22 = .ok (.goto 15, 3) := by decide +kernel
theorem dX7_readSeat_25 : decode cX7_readSeat 25 = .ok (.aload_n 2, 1) := by decide +kernel
theorem dX7_readSeat_26 : decode cX7_readSeat 26 = .ok (.invokevirtual 111, 3) := by decide +kernel
theorem dX7_readSeat_29 : decode cX7_readSeat 29 = .ok (.ifCond .eq 8, 3) := by decide +kernel
theorem dX7_readSeat_32 : decode cX7_readSeat 32 = .ok (.aload_n 0, 1) := by decide +kernel
theorem dX7_readSeat_33 : decode cX7_readSeat 33 = .ok (.iconst 3, 1) := by decide +kernel
theorem dX7_readSeat_34 : decode cX7_readSeat 34 = .ok (.invokevirtual 104, 3) := by decide +kernel
theorem dX7_readSeat_37 : decode cX7_readSeat 37 = .ok (.aload_n 1, 1) := by decide +kernel
theorem dX7_readSeat_38 : decode cX7_readSeat 38 = .ok (.aload_n 0, 1) := by decide +kernel
theorem dX7_readSeat_39 : decode cX7_readSeat 39 = .ok (.iconst 0, 1) := by decide +kernel
theorem dX7_readSeat_40 : decode cX7_readSeat 40 = .ok (.aload_n 1, 1) := by decide +kernel
theorem dX7_readSeat_41 : decode cX7_readSeat 41 = .ok (.getfield 116, 3) := by decide +kernel
theorem dX7_readSeat_44 : decode cX7_readSeat 44 = .ok (.iconst 1, 1) := by decide +kernel
theorem dX7_readSeat_45 : decode cX7_readSeat 45 = .ok (.isub, 1) := by decide +kernel
theorem dX7_readSeat_46 : decode cX7_readSeat 46 = .ok (.invokevirtual 54, 3) := by decide +kernel
theorem dX7_readSeat_49 : decode cX7_readSeat 49 = .ok (.invokevirtual 119, 3) := by decide +kernel
theorem dX7_readSeat_52 : decode cX7_readSeat 52 = .ok (.astore_n 3, 1) := by decide +kernel
theorem dX7_readSeat_53 : decode cX7_readSeat 53 = .ok (.aload_n 0, 1) := by decide +kernel
theorem dX7_readSeat_54 : decode cX7_readSeat 54 = .ok (.invokevirtual 123, 3) := by decide +kernel
theorem dX7_readSeat_57 : decode cX7_readSeat 57 = .ok (.istore 4, 2) := by decide +kernel
theorem dX7_readSeat_59 : decode cX7_readSeat 59 = .ok (.aload_n 0, 1) := by decide +kernel
theorem dX7_readSeat_60 : decode cX7_readSeat 60 = .ok (.iconst 1, 1) := by decide +kernel
theorem dX7_readSeat_61 : decode cX7_readSeat 61 = .ok (.aload_n 3, 1) := by decide +kernel
theorem dX7_readSeat_62 : decode cX7_readSeat 62 = .ok (.ifnonnull 7, 3) := by decide +kernel
theorem dX7_readSeat_65 : decode cX7_readSeat 65 = .ok (.iconst 0, 1) := by decide +kernel
theorem dX7_readSeat_66 : decode cX7_readSeat 66 = .ok (.goto 7, 3) := by decide +kernel
theorem dX7_readSeat_69 : decode cX7_readSeat 69 = .ok (.aload_n 3, 1) := by decide +kernel
theorem dX7_readSeat_70 : decode cX7_readSeat 70 = .ok (.getfield 127, 3) := by decide +kernel
theorem dX7_readSeat_73 : decode cX7_readSeat 73 = .ok (.invokevirtual 54, 3) := by decide +kernel
theorem dX7_readSeat_76 : decode cX7_readSeat 76 = .ok (.istore 5, 2) := by decide +kernel
theorem dX7_readSeat_78 : decode cX7_readSeat 78 = .ok (.aload_n 3, 1) := by decide +kernel
theorem dX7_readSeat_79 : decode cX7_readSeat 79 = .ok (.ifnull 20, 3) := by decide +kernel
theorem dX7_readSeat_82 : decode cX7_readSeat 82 = .ok (.aload_n 3, 1) := by decide +kernel
theorem dX7_readSeat_83 : decode cX7_readSeat 83 = .ok (.iload 4, 2) := by decide +kernel
theorem dX7_readSeat_85 : decode cX7_readSeat 85 = .ok (.iload 5, 2) := by decide +kernel
theorem dX7_readSeat_87 : decode cX7_readSeat 87 = .ok (.imul, 1) := by decide +kernel
theorem dX7_readSeat_88 : decode cX7_readSeat 88 = .ok (.invokevirtual 132, 3) := by decide +kernel
theorem dX7_readSeat_91 : decode cX7_readSeat 91 = .ok (.ifCond .ne 8, 3) := by decide +kernel
theorem dX7_readSeat_94 : decode cX7_readSeat 94 = .ok (.aload_n 0, 1) := by decide +kernel
theorem dX7_readSeat_95 : decode cX7_readSeat 95 = .ok (.iconst 3, 1) := by decide +kernel
theorem dX7_readSeat_96 : decode cX7_readSeat 96 = .ok (.invokevirtual 104, 3) := by decide +kernel
theorem dX7_readSeat_99 : decode cX7_readSeat 99 = .ok (.aload_n 0, 1) := by decide +kernel
theorem dX7_readSeat_100 : decode cX7_readSeat 100 = .ok (.bipush 59, 2) := by decide +kernel
theorem dX7_readSeat_102 : decode cX7_readSeat 102 = .ok (.invokevirtual 81, 3) := by decide +kernel
theorem dX7_readSeat_105 : decode cX7_readSeat 105 = .ok (.aload_n 0, 1) := by decide +kernel
theorem dX7_readSeat_106 : decode cX7_readSeat 106 = .ok (.invokevirtual 88, 3) := by decide +kernel
theorem dX7_readSeat_109 : decode cX7_readSeat 109 = .ok (.ifCond .ne 22, 3) := by decide +kernel
theorem dX7_readSeat_112 : decode cX7_readSeat 112 = .ok (.aload_n 2, 1) := by decide +kernel
theorem dX7_readSeat_113 : decode cX7_readSeat 113 = .ok (.ifnull 18, 3) := by decide +kernel
theorem dX7_readSeat_116 : decode cX7_readSeat 116 = .ok (.aload_n 3, 1) := by decide +kernel
theorem dX7_readSeat_117 : decode cX7_readSeat 117 = .ok (.ifnull 14, 3) := by decide +kernel
theorem dX7_readSeat_120 : decode cX7_readSeat 120 = .ok (.aload_n 1, 1) := by decide +kernel
theorem dX7_readSeat_121 : decode cX7_readSeat 121 = .ok (.aload_n 2, 1) := by decide +kernel
theorem dX7_readSeat_122 : decode cX7_readSeat 122 = .ok (.aload_n 3, 1) := by decide +kernel
theorem dX7_readSeat_123 : decode cX7_readSeat 123 = .ok (.iload 4, 2) := by decide +kernel
theorem dX7_readSeat_125 : decode cX7_readSeat 125 = .ok (.iload 5, 2) := by decide +kernel
theorem dX7_readSeat_127 : decode cX7_readSeat 127 = .ok (.imul, 1) := by decide +kernel
theorem dX7_readSeat_128 : decode cX7_readSeat 128 = .ok (.invokevirtual 136, 3) := by decide +kernel
theorem dX7_readSeat_131 : decode cX7_readSeat 131 = .ok (.return_, 1) := by decide +kernel
theorem dX8_init_0 : decode cX8_init 0 = .ok (.aload_n 0, 1) := by decide +kernel
theorem dX8_init_1 : decode cX8_init 1 = .ok (.invokespecial 3, 3) := by decide +kernel
theorem dX8_init_4 : decode cX8_init 4 = .ok (.aload_n 0, 1) := by decide +kernel
theorem dX8_init_5 : decode cX8_init 5 = .ok (.sipush 800, 3) := by decide +kernel
theorem dX8_init_8 : decode cX8_init 8 = .ok (.newarray .int, 2) := by decide +kernel
theorem dX8_init_10 : decode cX8_init 10 = .ok (.putfield 9, 3) := by decide +kernel
theorem dX8_init_13 : decode cX8_init 13 = .ok (.return_, 1) := by decide +kernel
theorem dX8_byteAt_0 : decode cX8_byteAt 0 = .ok (.iload_n 1, 1) := by decide +kernel
theorem dX8_byteAt_1 : decode cX8_byteAt 1 = .ok (.ifCond .lt 29, 3) := by decide +kernel
theorem dX8_byteAt_4 : decode cX8_byteAt 4 = .ok (.iload_n 1, 1) := by decide +kernel
theorem dX8_byteAt_5 : decode cX8_byteAt 5 = .ok (.aload_n 0, 1) := by decide +kernel
theorem dX8_byteAt_6 : decode cX8_byteAt 6 = .ok (.getfield 15, 3) := by decide +kernel
theorem dX8_byteAt_9 : decode cX8_byteAt 9 = .ok (.if_icmp .ge 21, 3) := by decide +kernel
theorem dX8_byteAt_12 : decode cX8_byteAt 12 = .ok (.iload_n 1, 1) := by decide +kernel
theorem dX8_byteAt_13 : decode cX8_byteAt 13 = .ok (.aload_n 0, 1) := by decide +kernel
theorem dX8_byteAt_14 : decode cX8_byteAt 14 = .ok (.getfield 9, 3) := by decide +kernel
theorem dX8_byteAt_17 : decode cX8_byteAt 17 = .ok (.arraylength, 1) := by decide +kernel
theorem dX8_byteAt_18 : decode cX8_byteAt 18 = .ok (.if_icmp .ge 12, 3) := by decide +kernel
theorem dX8_byteAt_21 : decode cX8_byteAt 21 = .ok (.aload_n 0, 1) := by decide +kernel
theorem dX8_byteAt_22 : decode cX8_byteAt 22 = .ok (.getfield 9, 3) := by decide +kernel
theorem dX8_byteAt_25 : decode cX8_byteAt 25 = .ok (.iload_n 1, 1) := by decide +kernel
theorem dX8_byteAt_26 : decode cX8_byteAt 26 = .ok (.iaload, 1) := by decide +kernel
theorem dX8_byteAt_27 : decode cX8_byteAt 27 = .ok (.goto 4, 3) := by decide +kernel
theorem dX8_byteAt_30 : decode cX8_byteAt 30 = .ok (.iconst (-1), 1) := by decide +kernel
theorem dX8_byteAt_31 : decode cX8_byteAt 31 = .ok (.ireturn, 1) := by decide +kernel
theorem dX8_add_0 : decode cX8_add 0 = .ok (.aload_n 0, 1) := by decide +kernel
theorem dX8_add_1 : decode cX8_add 1 = .ok (.getfield 15, 3) := by decide +kernel
theorem dX8_add_4 : decode cX8_add 4 = .ok (.ifCond .lt 35, 3) := by decide +kernel
theorem dX8_add_7 : decode cX8_add 7 = .ok (.aload_n 0, 1) := by decide +kernel
theorem dX8_add_8 : decode cX8_add 8 = .ok (.getfield 15, 3) := by decide +kernel
theorem dX8_add_11 : decode cX8_add 11 = .ok (.aload_n 0, 1) := by decide +kernel
theorem dX8_add_12 : decode cX8_add 12 = .ok (.getfield 9, 3) := by decide +kernel
theorem dX8_add_15 : decode cX8_add 15 = .ok (.arraylength, 1) := by decide +kernel
theorem dX8_add_16 : decode cX8_add 16 = .ok (.if_icmp .ge 23, 3) := by decide +kernel
theorem dX8_add_19 : decode cX8_add 19 = .ok (.aload_n 0, 1) := by decide +kernel
theorem dX8_add_20 : decode cX8_add 20 = .ok (.getfield 9, 3) := by decide +kernel
theorem dX8_add_23 : decode cX8_add 23 = .ok (.aload_n 0, 1) := by decide +kernel
theorem dX8_add_24 : decode cX8_add 24 = .ok (.getfield 15, 3) := by decide +kernel
theorem dX8_add_27 : decode cX8_add 27 = .ok (.iload_n 1, 1) := by decide +kernel
theorem dX8_add_28 : decode cX8_add 28 = .ok (.iastore, 1) := by decide +kernel
theorem dX8_add_29 : decode cX8_add 29 = .ok (.aload_n 0, 1) := by decide +kernel
theorem dX8_add_30 : decode cX8_add 30 = .ok (.dup, 1) := by decide +kernel
theorem dX8_add_31 : decode cX8_add 31 = .ok (.getfield 15, 3) := by decide +kernel
theorem dX8_add_34 : decode cX8_add 34 = .ok (.iconst 1, 1) := by decide +kernel
theorem dX8_add_35 : decode cX8_add 35 = .ok (.iadd, 1) := by decide +kernel
theorem dX8_add_36 : decode cX8_add 36 = .ok (.putfield 15, 3) := by decide +kernel
theorem dX8_add_39 : decode cX8_add 39 = .ok (.return_, 1) := by decide +kernel
theorem dX8_addBytesOf_0 : decode cX8_addBytesOf 0 = .ok (.bipush 24, 2) := by decide +kernel
theorem dX8_addBytesOf_2 : decode cX8_addBytesOf 2 = .ok (.istore_n 2, 1) := by decide +kernel
theorem dX8_addBytesOf_3 : decode cX8_addBytesOf 3 = .ok (.iload_n 2, 1) := by decide +kernel
theorem dX8_addBytesOf_4 : decode cX8_addBytesOf 4 = .ok (.ifCond .lt 26, 3) := by decide +kernel
theorem dX8_addBytesOf_7 : decode cX8_addBytesOf 7 = .ok (.iload_n 1, 1) := by decide +kernel
theorem dX8_addBytesOf_8 : decode cX8_addBytesOf 8 = .ok (.iload_n 2, 1) := by decide +kernel
theorem dX8_addBytesOf_9 : decode cX8_addBytesOf 9 = .ok (.iushr, 1) := by decide +kernel
theorem dX8_addBytesOf_10 : decode cX8_addBytesOf 10 = .ok (.sipush 255, 3) := by decide +kernel
theorem dX8_addBytesOf_13 : decode cX8_addBytesOf 13 = .ok (.iand, 1) := by decide +kernel
theorem dX8_addBytesOf_14 : decode cX8_addBytesOf 14 = .ok (.istore_n 3, 1) := by decide +kernel
theorem dX8_addBytesOf_15 : decode cX8_addBytesOf 15 = .ok (.iload_n 3, 1) := by decide +kernel
theorem dX8_addBytesOf_16 : decode cX8_addBytesOf 16 = .ok (.ifCond .eq 8, 3) := by decide +kernel
theorem dX8_addBytesOf_19 : decode cX8_addBytesOf 19 = .ok (.aload_n 0, 1) := by decide +kernel
theorem dX8_addBytesOf_20 : decode cX8_addBytesOf 20 = .ok (.iload_n 3, 1) := by decide +kernel
theorem dX8_addBytesOf_21 : decode cX8_addBytesOf 21 = .ok (.invokevirtual 19, 3) := by decide +kernel
theorem dX8_addBytesOf_24 : decode cX8_addBytesOf 24 = .ok (.iinc 2 (-8), 3) := by decide +kernel
theorem dX8_addBytesOf_27 : decode cX8_addBytesOf 27 = .ok (.goto (-24), 3) := by decide +kernel
theorem dX8_addBytesOf_30 : decode cX8_addBytesOf 30 = .ok (.return_, 1) := by decide +kernel
theorem dX8_addAll_0 : decode cX8_addAll 0 = .ok (.iconst 0, 1) := by decide +kernel
theorem dX8_addAll_1 : decode cX8_addAll 1 = .ok (.istore_n 2, 1) := by decide +kernel
theorem dX8_addAll_2 : decode cX8_addAll 2 = .ok (.iload_n 2, 1) := by decide +kernel
theorem dX8_addAll_3 : decode cX8_addAll 3 = .ok (.aload_n 1, 1) := by decide +kernel
theorem dX8_addAll_4 : decode cX8_addAll 4 = .ok (.invokevirtual 23, 3) := by decide +kernel
theorem dX8_addAll_7 : decode cX8_addAll 7 = .ok (.if_icmp .ge 18, 3) := by decide +kernel
theorem dX8_addAll_10 : decode cX8_addAll 10 = .ok (.aload_n 0, 1) := by decide +kernel
theorem dX8_addAll_11 : decode cX8_addAll 11 = .ok (.aload_n 1, 1) := by decide +kernel
theorem dX8_addAll_12 : decode cX8_addAll 12 = .ok (.iload_n 2, 1) := by decide +kernel
theorem dX8_addAll_13 : decode cX8_addAll 13 = .ok (.invokevirtual 28, 3) := by decide +kernel
theorem dX8_addAll_16 : decode cX8_addAll 16 = .ok (.invokevirtual 19, 3) := by decide +kernel
theorem dX8_addAll_19 : decode cX8_addAll 19 = .ok (.iinc 2 1, 3) := by decide +kernel
theorem dX8_addAll_22 : decode cX8_addAll 22 = .ok (.goto (-20), 3) := by decide +kernel
theorem dX8_addAll_25 : decode cX8_addAll 25 = .ok (.return_, 1) := by decide +kernel
theorem dX8_nameBetween_0 : decode cX8_nameBetween 0 = .ok (.iload_n 2, 1) := by decide +kernel
theorem dX8_nameBetween_1 : decode cX8_nameBetween 1 = .ok (.iload_n 1, 1) := by decide +kernel
theorem dX8_nameBetween_2 : decode cX8_nameBetween 2 = .ok (.isub, 1) := by decide +kernel
theorem dX8_nameBetween_3 : decode cX8_nameBetween 3 = .ok (.bipush 6, 2) := by decide +kernel
theorem dX8_nameBetween_5 : decode cX8_nameBetween 5 = .ok (.if_icmp .le 5, 3) := by decide +kernel
theorem dX8_nameBetween_8 : decode cX8_nameBetween 8 = .ok (.lconst 0, 1) := by decide +kernel
theorem dX8_nameBetween_9 : decode cX8_nameBetween 9 = .ok (.lreturn, 1) := by decide +kernel
theorem dX8_nameBetween_10 : decode cX8_nameBetween 10 = .ok (.lconst 0, 1) := by decide +kernel
theorem dX8_nameBetween_11 : decode cX8_nameBetween 11 = .ok (.lstore_n 3, 1) := by decide +kernel
theorem dX8_nameBetween_12 : decode cX8_nameBetween 12 = .ok (.iload_n 2, 1) := by decide +kernel
theorem dX8_nameBetween_13 : decode cX8_nameBetween 13 = .ok (.iconst 1, 1) := by decide +kernel
theorem dX8_nameBetween_14 : decode cX8_nameBetween 14 = .ok (.isub, 1) := by decide +kernel
theorem dX8_nameBetween_15 : decode cX8_nameBetween 15 = .ok (.istore 5, 2) := by decide +kernel
theorem dX8_nameBetween_17 : decode cX8_nameBetween 17 = .ok (.iload 5, 2) := by decide +kernel
theorem dX8_nameBetween_19 : decode cX8_nameBetween 19 = .ok (.iload_n 1, 1) := by decide +kernel
theorem dX8_nameBetween_20 : decode cX8_nameBetween 20 = .ok (.if_icmp .lt 36, 3) := by decide +kernel
theorem dX8_nameBetween_23 : decode cX8_nameBetween 23 = .ok (.aload_n 0, 1) := by decide +kernel
theorem dX8_nameBetween_24 : decode cX8_nameBetween 24 = .ok (.iload 5, 2) := by decide +kernel
theorem dX8_nameBetween_26 : decode cX8_nameBetween 26 = .ok (.invokevirtual 36, 3) := by decide +kernel
theorem dX8_nameBetween_29 : decode cX8_nameBetween 29 = .ok (.istore 6, 2) := by decide +kernel
theorem dX8_nameBetween_31 : decode cX8_nameBetween 31 = .ok (.iload 6, 2) := by decide +kernel
theorem dX8_nameBetween_33 : decode cX8_nameBetween 33 = .ok (.invokestatic 40, 3) := by decide +kernel
theorem dX8_nameBetween_36 : decode cX8_nameBetween 36 = .ok (.ifCond .ne 5, 3) := by decide +kernel
theorem dX8_nameBetween_39 : decode cX8_nameBetween 39 = .ok (.lconst 0, 1) := by decide +kernel
theorem dX8_nameBetween_40 : decode cX8_nameBetween 40 = .ok (.lreturn, 1) := by decide +kernel
theorem dX8_nameBetween_41 : decode cX8_nameBetween 41 = .ok (.lload_n 3, 1) := by decide +kernel
theorem dX8_nameBetween_42 : decode cX8_nameBetween 42 = .ok (.bipush 8, 2) := by decide +kernel
theorem dX8_nameBetween_44 : decode cX8_nameBetween 44 = .ok (.lshl, 1) := by decide +kernel
theorem dX8_nameBetween_45 : decode cX8_nameBetween 45 = .ok (.iload 6, 2) := by decide +kernel
theorem dX8_nameBetween_47 : decode cX8_nameBetween 47 = .ok (.i2l, 1) := by decide +kernel
theorem dX8_nameBetween_48 : decode cX8_nameBetween 48 = .ok (.lor, 1) := by decide +kernel
theorem dX8_nameBetween_49 : decode cX8_nameBetween 49 = .ok (.lstore_n 3, 1) := by decide +kernel
theorem dX8_nameBetween_50 : decode cX8_nameBetween 50 = .ok (.iinc 5 (-1), 3) := by decide +kernel
theorem dX8_nameBetween_53 : decode cX8_nameBetween 53 = .ok (.goto (-36), 3) := by decide +kernel
theorem dX8_nameBetween_56 : decode cX8_nameBetween 56 = .ok (.lload_n 3, 1) := by decide +kernel
theorem dX8_nameBetween_57 : decode cX8_nameBetween 57 = .ok (.lreturn, 1) := by decide +kernel
theorem dX9_init_0 : decode cX9_init 0 = .ok (.aload_n 0, 1) := by decide +kernel
theorem dX9_init_1 : decode cX9_init 1 = .ok (.invokespecial 3, 3) := by decide +kernel
theorem dX9_init_4 : decode cX9_init 4 = .ok (.aload_n 0, 1) := by decide +kernel
theorem dX9_init_5 : decode cX9_init 5 = .ok (.sipush 801, 3) := by decide +kernel
theorem dX9_init_8 : decode cX9_init 8 = .ok (.newarray .int, 2) := by decide +kernel
theorem dX9_init_10 : decode cX9_init 10 = .ok (.putfield 9, 3) := by decide +kernel
theorem dX9_init_13 : decode cX9_init 13 = .ok (.aload_n 0, 1) := by decide +kernel
theorem dX9_init_14 : decode cX9_init 14 = .ok (.sipush 801, 3) := by decide +kernel
theorem dX9_init_17 : decode cX9_init 17 = .ok (.newarray .int, 2) := by decide +kernel
theorem dX9_init_19 : decode cX9_init 19 = .ok (.putfield 15, 3) := by decide +kernel
theorem dX9_init_22 : decode cX9_init 22 = .ok (.aload_n 0, 1) := by decide +kernel
theorem dX9_init_23 : decode cX9_init 23 = .ok (.sipush 801, 3) := by decide +kernel
theorem dX9_init_26 : decode cX9_init 26 = .ok (.newarray .int, 2) := by decide +kernel
theorem dX9_init_28 : decode cX9_init 28 = .ok (.putfield 18, 3) := by decide +kernel
theorem dX9_init_31 : decode cX9_init 31 = .ok (.aload_n 0, 1) := by decide +kernel
theorem dX9_init_32 : decode cX9_init 32 = .ok (.iconst (-1), 1) := by decide +kernel
theorem dX9_init_33 : decode cX9_init 33 = .ok (.putfield 21, 3) := by decide +kernel
theorem dX9_init_36 : decode cX9_init 36 = .ok (.aload_n 0, 1) := by decide +kernel
theorem dX9_init_37 : decode cX9_init 37 = .ok (.aload_n 1, 1) := by decide +kernel
theorem dX9_init_38 : decode cX9_init 38 = .ok (.putfield 25, 3) := by decide +kernel
theorem dX9_init_41 : decode cX9_init 41 = .ok (.return_, 1) := by decide +kernel
theorem dX9_begin_0 : decode cX9_begin 0 = .ok (.aload_n 0, 1) := by decide +kernel
theorem dX9_begin_1 : decode cX9_begin 1 = .ok (.iconst 0, 1) := by decide +kernel
theorem dX9_begin_2 : decode cX9_begin 2 = .ok (.putfield 29, 3) := by decide +kernel
theorem dX9_begin_5 : decode cX9_begin 5 = .ok (.aload_n 0, 1) := by decide +kernel
theorem dX9_begin_6 : decode cX9_begin 6 = .ok (.iconst (-1), 1) := by decide +kernel
theorem dX9_begin_7 : decode cX9_begin 7 = .ok (.putfield 21, 3) := by decide +kernel
theorem dX9_begin_10 : decode cX9_begin 10 = .ok (.aload_n 0, 1) := by decide +kernel
theorem dX9_begin_11 : decode cX9_begin 11 = .ok (.iconst 0, 1) := by decide +kernel
theorem dX9_begin_12 : decode cX9_begin 12 = .ok (.putfield 32, 3) := by decide +kernel
theorem dX9_begin_15 : decode cX9_begin 15 = .ok (.aload_n 0, 1) := by decide +kernel
theorem dX9_begin_16 : decode cX9_begin 16 = .ok (.iconst 0, 1) := by decide +kernel
theorem dX9_begin_17 : decode cX9_begin 17 = .ok (.putfield 35, 3) := by decide +kernel
theorem dX9_begin_20 : decode cX9_begin 20 = .ok (.iconst 0, 1) := by decide +kernel
theorem dX9_begin_21 : decode cX9_begin 21 = .ok (.istore_n 1, 1) := by decide +kernel
theorem dX9_begin_22 : decode cX9_begin 22 = .ok (.iconst 0, 1) := by decide +kernel
theorem dX9_begin_23 : decode cX9_begin 23 = .ok (.istore_n 2, 1) := by decide +kernel
theorem dX9_begin_24 : decode cX9_begin 24 = .ok (.iload_n 2, 1) := by decide +kernel
theorem dX9_begin_25 : decode cX9_begin 25 = .ok (.aload_n 0, 1) := by decide +kernel
theorem dX9_begin_26 : decode cX9_begin 26 = .ok (.getfield 25, 3) := by decide +kernel
theorem dX9_begin_29 : decode cX9_begin 29 = .ok (.getfield 38, 3) := by decide +kernel
theorem dX9_begin_32 : decode cX9_begin 32 = .ok (.if_icmp .ge 61, 3) := by decide +kernel
theorem dX9_begin_35 : decode cX9_begin 35 = .ok (.aload_n 0, 1) := by decide +kernel
theorem dX9_begin_36 : decode cX9_begin 36 = .ok (.getfield 25, 3) := by decide +kernel
theorem dX9_begin_39 : decode cX9_begin 39 = .ok (.iload_n 2, 1) := by decide +kernel
theorem dX9_begin_40 : decode cX9_begin 40 = .ok (.invokevirtual 43, 3) := by decide +kernel
theorem dX9_begin_43 : decode cX9_begin 43 = .ok (.invokestatic 47, 3) := by decide +kernel
theorem dX9_begin_46 : decode cX9_begin 46 = .ok (.istore_n 3, 1) := by decide +kernel
theorem dX9_begin_47 : decode cX9_begin 47 = .ok (.iload_n 3, 1) := by decide +kernel
theorem dX9_begin_48 : decode cX9_begin 48 = .ok (.iload_n 1, 1) := by decide +kernel
theorem dX9_begin_49 : decode cX9_begin 49 = .ok (.if_icmp .ne 23, 3) := by decide +kernel
theorem dX9_begin_52 : decode cX9_begin 52 = .ok (.iload_n 3, 1) := by decide +kernel
theorem dX9_begin_53 : decode cX9_begin 53 = .ok (.iconst 1, 1) := by decide +kernel
theorem dX9_begin_54 : decode cX9_begin 54 = .ok (.if_icmp .eq 8, 3) := by decide +kernel
theorem dX9_begin_57 : decode cX9_begin 57 = .ok (.iload_n 3, 1) := by decide +kernel
theorem dX9_begin_58 : decode cX9_begin 58 = .ok (.iconst 2, 1) := by decide +kernel
theorem dX9_begin_59 : decode cX9_begin 59 = .ok (.if_icmp .ne 13, 3) := by decide +kernel
theorem dX9_begin_62 : decode cX9_begin 62 = .ok (.aload_n 0, 1) := by decide +kernel
theorem dX9_begin_63 : decode cX9_begin 63 = .ok (.iload_n 2, 1) := by decide +kernel
theorem dX9_begin_64 : decode cX9_begin 64 = .ok (.iconst 1, 1) := by decide +kernel
theorem dX9_begin_65 : decode cX9_begin 65 = .ok (.iadd, 1) := by decide +kernel
theorem dX9_begin_66 : decode cX9_begin 66 = .ok (.invokevirtual 50, 3) := by decide +kernel
theorem dX9_begin_69 : decode cX9_begin 69 = .ok (.goto 16, 3) := by decide +kernel
theorem dX9_begin_72 : decode cX9_begin 72 = .ok (.iload_n 3, 1) := by decide +kernel
theorem dX9_begin_73 : decode cX9_begin 73 = .ok (.ifCond .eq 12, 3) := by decide +kernel
theorem dX9_begin_76 : decode cX9_begin 76 = .ok (.aload_n 0, 1) := by decide +kernel
theorem dX9_begin_77 : decode cX9_begin 77 = .ok (.iload_n 3, 1) := by decide +kernel
theorem dX9_begin_78 : decode cX9_begin 78 = .ok (.iload_n 2, 1) := by decide +kernel
theorem dX9_begin_79 : decode cX9_begin 79 = .ok (.iload_n 2, 1) := by decide +kernel
theorem dX9_begin_80 : decode cX9_begin 80 = .ok (.iconst 1, 1) := by decide +kernel
theorem dX9_begin_81 : decode cX9_begin 81 = .ok (.iadd, 1) := by decide +kernel
theorem dX9_begin_82 : decode cX9_begin 82 = .ok (.invokevirtual 54, 3) := by decide +kernel
theorem dX9_begin_85 : decode cX9_begin 85 = .ok (.iload_n 3, 1) := by decide +kernel
theorem dX9_begin_86 : decode cX9_begin 86 = .ok (.istore_n 1, 1) := by decide +kernel
theorem dX9_begin_87 : decode cX9_begin 87 = .ok (.iinc 2 1, 3) := by decide +kernel
theorem dX9_begin_90 : decode cX9_begin 90 = .ok (.goto (-66), 3) := by decide +kernel
theorem dX9_begin_93 : decode cX9_begin 93 = .ok (.aload_n 0, 1) := by decide +kernel
theorem dX9_begin_94 : decode cX9_begin 94 = .ok (.iconst 4, 1) := by decide +kernel
theorem dX9_begin_95 : decode cX9_begin 95 = .ok (.aload_n 0, 1) := by decide +kernel
theorem dX9_begin_96 : decode cX9_begin 96 = .ok (.getfield 25, 3) := by decide +kernel
theorem dX9_begin_99 : decode cX9_begin 99 = .ok (.getfield 38, 3) := by decide +kernel
theorem dX9_begin_102 : decode cX9_begin 102 = .ok (.aload_n 0, 1) := by decide +kernel
theorem dX9_begin_103 : decode cX9_begin 103 = .ok (.getfield 25, 3) := by decide +kernel
theorem dX9_begin_106 : decode cX9_begin 106 = .ok (.getfield 38, 3) := by decide +kernel
theorem dX9_begin_109 : decode cX9_begin 109 = .ok (.invokevirtual 54, 3) := by decide +kernel
theorem dX9_begin_112 : decode cX9_begin 112 = .ok (.return_, 1) := by decide +kernel
theorem dX9_kindOf_0 : decode cX9_kindOf 0 = .ok (.iload_n 0, 1) := by decide +kernel
theorem dX9_kindOf_1 : decode cX9_kindOf 1 = .ok (.invokestatic 58, 3) := by decide +kernel
theorem dX9_kindOf_4 : decode cX9_kindOf 4 = .ok (.ifCond .eq 5, 3) := by decide +kernel
theorem dX9_kindOf_7 : decode cX9_kindOf 7 = .ok (.iconst 1, 1) := by decide +kernel
theorem dX9_kindOf_8 : decode cX9_kindOf 8 = .ok (.ireturn, 1) := by decide +kernel
theorem dX9_kindOf_9 : decode cX9_kindOf 9 = .ok (.iload_n 0, 1) := by decide +kernel
theorem dX9_kindOf_10 : decode cX9_kindOf 10 = .ok (.invokestatic 62, 3) := by decide +kernel
theorem dX9_kindOf_13 : decode cX9_kindOf 13 = .ok (.ifCond .eq 5, 3) := by decide +kernel
theorem dX9_kindOf_16 : decode cX9_kindOf 16 = .ok (.iconst 2, 1) := by decide +kernel
theorem dX9_kindOf_17 : decode cX9_kindOf 17 = .ok (.ireturn, 1) := by decide +kernel
theorem dX9_kindOf_18 : decode cX9_kindOf 18 = .ok (.iload_n 0, 1) := by decide +kernel
theorem dX9_kindOf_19 : decode cX9_kindOf 19 = .ok (.bipush 32, 2) := by decide +kernel
theorem dX9_kindOf_21 : decode cX9_kindOf 21 = .ok (.if_icmp .eq 9, 3) := by decide +kernel
theorem dX9_kindOf_24 : decode cX9_kindOf 24 = .ok (.iload_n 0, 1) := by decide +kernel
theorem dX9_kindOf_25 : decode cX9_kindOf 25 = .ok (.bipush 10, 2) := by decide +kernel
theorem dX9_kindOf_27 : decode cX9_kindOf 27 = .ok (.if_icmp .ne 7, 3) := by decide +kernel
theorem dX9_kindOf_30 : decode cX9_kindOf 30 = .ok (.iconst 0, 1) := by decide +kernel
theorem dX9_kindOf_31 : decode cX9_kindOf 31 = .ok (.goto 4, 3) := by decide +kernel
theorem dX9_kindOf_34 : decode cX9_kindOf 34 = .ok (.iconst 3, 1) := by decide +kernel
theorem dX9_kindOf_35 : decode cX9_kindOf 35 = .ok (.ireturn, 1) := by decide +kernel
theorem dX9_add_0 : decode cX9_add 0 = .ok (.aload_n 0, 1) := by decide +kernel
theorem dX9_add_1 : decode cX9_add 1 = .ok (.getfield 35, 3) := by decide +kernel
theorem dX9_add_4 : decode cX9_add 4 = .ok (.aload_n 0, 1) := by decide +kernel
theorem dX9_add_5 : decode cX9_add 5 = .ok (.getfield 9, 3) := by decide +kernel
theorem dX9_add_8 : decode cX9_add 8 = .ok (.arraylength, 1) := by decide +kernel
theorem dX9_add_9 : decode cX9_add 9 = .ok (.if_icmp .ge 43, 3) := by decide +kernel
theorem dX9_add_12 : decode cX9_add 12 = .ok (.aload_n 0, 1) := by decide +kernel
theorem dX9_add_13 : decode cX9_add 13 = .ok (.getfield 9, 3) := by decide +kernel
theorem dX9_add_16 : decode cX9_add 16 = .ok (.aload_n 0, 1) := by decide +kernel
theorem dX9_add_17 : decode cX9_add 17 = .ok (.getfield 35, 3) := by decide +kernel
theorem dX9_add_20 : decode cX9_add 20 = .ok (.iload_n 1, 1) := by decide +kernel
theorem dX9_add_21 : decode cX9_add 21 = .ok (.iastore, 1) := by decide +kernel
theorem dX9_add_22 : decode cX9_add 22 = .ok (.aload_n 0, 1) := by decide +kernel
theorem dX9_add_23 : decode cX9_add 23 = .ok (.getfield 15, 3) := by decide +kernel
theorem dX9_add_26 : decode cX9_add 26 = .ok (.aload_n 0, 1) := by decide +kernel
theorem dX9_add_27 : decode cX9_add 27 = .ok (.getfield 35, 3) := by decide +kernel
theorem dX9_add_30 : decode cX9_add 30 = .ok (.iload_n 2, 1) := by decide +kernel
theorem dX9_add_31 : decode cX9_add 31 = .ok (.iastore, 1) := by decide +kernel
theorem dX9_add_32 : decode cX9_add 32 = .ok (.aload_n 0, 1) := by decide +kernel
theorem dX9_add_33 : decode cX9_add 33 = .ok (.getfield 18, 3) := by decide +kernel
theorem dX9_add_36 : decode cX9_add 36 = .ok (.aload_n 0, 1) := by decide +kernel
theorem dX9_add_37 : decode cX9_add 37 = .ok (.getfield 35, 3) := by decide +kernel
theorem dX9_add_40 : decode cX9_add 40 = .ok (.iload_n 3, 1) := by decide +kernel
theorem dX9_add_41 : decode cX9_add 41 = .ok (.iastore, 1) := by decide +kernel
theorem dX9_add_42 : decode cX9_add 42 = .ok (.aload_n 0, 1) := by decide +kernel
theorem dX9_add_43 : decode cX9_add 43 = .ok (.dup, 1) := by decide +kernel
theorem dX9_add_44 : decode cX9_add 44 = .ok (.getfield 35, 3) := by decide +kernel
theorem dX9_add_47 : decode cX9_add 47 = .ok (.iconst 1, 1) := by decide +kernel
theorem dX9_add_48 : decode cX9_add 48 = .ok (.iadd, 1) := by decide +kernel
theorem dX9_add_49 : decode cX9_add 49 = .ok (.putfield 35, 3) := by decide +kernel
theorem dX9_add_52 : decode cX9_add 52 = .ok (.return_, 1) := by decide +kernel
theorem dX9_lengthen_0 : decode cX9_lengthen 0 = .ok (.aload_n 0, 1) := by decide +kernel
theorem dX9_lengthen_1 : decode cX9_lengthen 1 = .ok (.getfield 35, 3) := by decide +kernel
theorem dX9_lengthen_4 : decode cX9_lengthen 4 = .ok (.ifCond .le 15, 3) := by decide +kernel
theorem dX9_lengthen_7 : decode cX9_lengthen 7 = .ok (.aload_n 0, 1) := by decide +kernel
theorem dX9_lengthen_8 : decode cX9_lengthen 8 = .ok (.getfield 18, 3) := by decide +kernel
theorem dX9_lengthen_11 : decode cX9_lengthen 11 = .ok (.aload_n 0, 1) := by decide +kernel
theorem dX9_lengthen_12 : decode cX9_lengthen 12 = .ok (.getfield 35, 3) := by decide +kernel
theorem dX9_lengthen_15 : decode cX9_lengthen 15 = .ok (.iconst 1, 1) := by decide +kernel
theorem dX9_lengthen_16 : decode cX9_lengthen 16 = .ok (.isub, 1) := by decide +kernel
theorem dX9_lengthen_17 : decode cX9_lengthen 17 = .ok (.iload_n 1, 1) := by decide +kernel
theorem dX9_lengthen_18 : decode cX9_lengthen 18 = .ok (.iastore, 1) := by decide +kernel
theorem dX9_lengthen_19 : decode cX9_lengthen 19 = .ok (.return_, 1) := by decide +kernel
theorem dX9_failed_0 : decode cX9_failed 0 = .ok (.aload_n 0, 1) := by decide +kernel
theorem dX9_failed_1 : decode cX9_failed 1 = .ok (.getfield 29, 3) := by decide +kernel
theorem dX9_failed_4 : decode cX9_failed 4 = .ok (.ifCond .eq 7, 3) := by decide +kernel
theorem dX9_failed_7 : decode cX9_failed 7 = .ok (.iconst 1, 1) := by decide +kernel
theorem dX9_failed_8 : decode cX9_failed 8 = .ok (.goto 4, 3) := by decide +kernel
theorem dX9_failed_11 : decode cX9_failed 11 = .ok (.iconst 0, 1) := by decide +kernel
theorem dX9_failed_12 : decode cX9_failed 12 = .ok (.ireturn, 1) := by decide +kernel
theorem dX9_refuse_0 : decode cX9_refuse 0 = .ok (.aload_n 0, 1) := by decide +kernel
theorem dX9_refuse_1 : decode cX9_refuse 1 = .ok (.aload_n 0, 1) := by decide +kernel
theorem dX9_refuse_2 : decode cX9_refuse 2 = .ok (.getfield 32, 3) := by decide +kernel
theorem dX9_refuse_5 : decode cX9_refuse 5 = .ok (.iload_n 1, 1) := by decide +kernel
theorem dX9_refuse_6 : decode cX9_refuse 6 = .ok (.invokevirtual 65, 3) := by decide +kernel
theorem dX9_refuse_9 : decode cX9_refuse 9 = .ok (.return_, 1) := by decide +kernel
theorem dX9_refuseTaken_0 : decode cX9_refuseTaken 0 = .ok (.aload_n 0, 1) := by decide +kernel
theorem dX9_refuseTaken_1 : decode cX9_refuseTaken 1 = .ok (.aload_n 0, 1) := by decide +kernel
theorem dX9_refuseTaken_2 : decode cX9_refuseTaken 2 = .ok (.getfield 32, 3) := by decide +kernel
theorem dX9_refuseTaken_5 : decode cX9_refuseTaken 5 = .ok (.iconst 1, 1) := by decide +kernel
theorem dX9_refuseTaken_6 : decode cX9_refuseTaken 6 = .ok (.isub, 1) := by decide +kernel
theorem dX9_refuseTaken_7 : decode cX9_refuseTaken 7 = .ok (.iload_n 1, 1) := by decide +kernel
theorem dX9_refuseTaken_8 : decode cX9_refuseTaken 8 = .ok (.invokevirtual 65, 3) := by decide +kernel
theorem dX9_refuseTaken_11 : decode cX9_refuseTaken 11 = .ok (.return_, 1) := by decide +kernel
theorem dX9_failAt_0 : decode cX9_failAt 0 = .ok (.aload_n 0, 1) := by decide +kernel
theorem dX9_failAt_1 : decode cX9_failAt 1 = .ok (.getfield 29, 3) := by decide +kernel
theorem dX9_failAt_4 : decode cX9_failAt 4 = .ok (.ifCond .ne 30, 3) := by decide +kernel
theorem dX9_failAt_7 : decode cX9_failAt 7 = .ok (.iload_n 1, 1) := by decide +kernel
theorem dX9_failAt_8 : decode cX9_failAt 8 = .ok (.ifCond .lt 26, 3) := by decide +kernel
theorem dX9_failAt_11 : decode cX9_failAt 11 = .ok (.iload_n 1, 1) := by decide +kernel
theorem dX9_failAt_12 : decode cX9_failAt 12 = .ok (.aload_n 0, 1) := by decide +kernel
theorem dX9_failAt_13 : decode cX9_failAt 13 = .ok (.getfield 35, 3) := by decide +kernel
theorem dX9_failAt_16 : decode cX9_failAt 16 = .ok (.if_icmp .ge 18, 3) := by decide +kernel
theorem dX9_failAt_19 : decode cX9_failAt 19 = .ok (.aload_n 0, 1) := by decide +kernel
theorem dX9_failAt_20 : decode cX9_failAt 20 = .ok (.iload_n 2, 1) := by decide +kernel
theorem dX9_failAt_21 : decode cX9_failAt 21 = .ok (.putfield 29, 3) := by decide +kernel
theorem dX9_failAt_24 : decode cX9_failAt 24 = .ok (.aload_n 0, 1) := by decide +kernel
theorem dX9_failAt_25 : decode cX9_failAt 25 = .ok (.aload_n 0, 1) := by decide +kernel
theorem dX9_failAt_26 : decode cX9_failAt 26 = .ok (.getfield 15, 3) := by decide +kernel
theorem dX9_failAt_29 : decode cX9_failAt 29 = .ok (.iload_n 1, 1) := by decide +kernel
theorem dX9_failAt_30 : decode cX9_failAt 30 = .ok (.iaload, 1) := by decide +kernel
theorem dX9_failAt_31 : decode cX9_failAt 31 = .ok (.putfield 21, 3) := by decide +kernel
theorem dX9_failAt_34 : decode cX9_failAt 34 = .ok (.return_, 1) := by decide +kernel
theorem dX9_at_0 : decode cX9_at 0 = .ok (.aload_n 0, 1) := by decide +kernel
theorem dX9_at_1 : decode cX9_at 1 = .ok (.getfield 29, 3) := by decide +kernel
theorem dX9_at_4 : decode cX9_at 4 = .ok (.ifCond .ne 31, 3) := by decide +kernel
theorem dX9_at_7 : decode cX9_at 7 = .ok (.aload_n 0, 1) := by decide +kernel
theorem dX9_at_8 : decode cX9_at 8 = .ok (.getfield 32, 3) := by decide +kernel
theorem dX9_at_11 : decode cX9_at 11 = .ok (.aload_n 0, 1) := by decide +kernel
theorem dX9_at_12 : decode cX9_at 12 = .ok (.getfield 35, 3) := by decide +kernel
theorem dX9_at_15 : decode cX9_at 15 = .ok (.if_icmp .ge 20, 3) := by decide +kernel
theorem dX9_at_18 : decode cX9_at 18 = .ok (.aload_n 0, 1) := by decide +kernel
theorem dX9_at_19 : decode cX9_at 19 = .ok (.getfield 9, 3) := by decide +kernel
theorem dX9_at_22 : decode cX9_at 22 = .ok (.aload_n 0, 1) := by decide +kernel
theorem dX9_at_23 : decode cX9_at 23 = .ok (.getfield 32, 3) := by decide +kernel
theorem dX9_at_26 : decode cX9_at 26 = .ok (.iaload, 1) := by decide +kernel
theorem dX9_at_27 : decode cX9_at 27 = .ok (.iload_n 1, 1) := by decide +kernel
theorem dX9_at_28 : decode cX9_at 28 = .ok (.if_icmp .ne 7, 3) := by decide +kernel
theorem dX9_at_31 : decode cX9_at 31 = .ok (.iconst 1, 1) := by decide +kernel
theorem dX9_at_32 : decode cX9_at 32 = .ok (.goto 4, 3) := by decide +kernel
theorem dX9_at_35 : decode cX9_at 35 = .ok (.iconst 0, 1) := by decide +kernel
theorem dX9_at_36 : decode cX9_at 36 = .ok (.ireturn, 1) := by decide +kernel
theorem dX9_atWord_0 : decode cX9_atWord 0 = .ok (.aload_n 0, 1) := by decide +kernel
theorem dX9_atWord_1 : decode cX9_atWord 1 = .ok (.iconst 1, 1) := by decide +kernel
theorem dX9_atWord_2 : decode cX9_atWord 2 = .ok (.invokevirtual 73, 3) := by decide +kernel
theorem dX9_atWord_5 : decode cX9_atWord 5 = .ok (.ifCond .eq 29, 3) := by decide +kernel
theorem dX9_atWord_8 : decode cX9_atWord 8 = .ok (.aload_n 1, 1) := by decide +kernel
theorem dX9_atWord_9 : decode cX9_atWord 9 = .ok (.invokevirtual 76, 3) := by decide +kernel
theorem dX9_atWord_12 : decode cX9_atWord 12 = .ok (.aload_n 0, 1) := by decide +kernel
theorem dX9_atWord_13 : decode cX9_atWord 13 = .ok (.getfield 18, 3) := by decide +kernel
theorem dX9_atWord_16 : decode cX9_atWord 16 = .ok (.aload_n 0, 1) := by decide +kernel
theorem dX9_atWord_17 : decode cX9_atWord 17 = .ok (.getfield 32, 3) := by decide +kernel
theorem dX9_atWord_20 : decode cX9_atWord 20 = .ok (.iaload, 1) := by decide +kernel
theorem dX9_atWord_21 : decode cX9_atWord 21 = .ok (.aload_n 0, 1) := by decide +kernel
theorem dX9_atWord_22 : decode cX9_atWord 22 = .ok (.getfield 15, 3) := by decide +kernel
theorem dX9_atWord_25 : decode cX9_atWord 25 = .ok (.aload_n 0, 1) := by decide +kernel
theorem dX9_atWord_26 : decode cX9_atWord 26 = .ok (.getfield 32, 3) := by decide +kernel
theorem dX9_atWord_29 : decode cX9_atWord 29 = .ok (.iaload, 1) := by decide +kernel
theorem dX9_atWord_30 : decode cX9_atWord 30 = .ok (.isub, 1) := by decide +kernel
theorem dX9_atWord_31 : decode cX9_atWord 31 = .ok (.if_icmp .eq 5, 3) := by decide +kernel
theorem dX9_atWord_34 : decode cX9_atWord 34 = .ok (.iconst 0, 1) := by decide +kernel
theorem dX9_atWord_35 : decode cX9_atWord 35 = .ok (.ireturn, 1) := by decide +kernel
theorem dX9_atWord_36 : decode cX9_atWord 36 = .ok (.iconst 0, 1) := by decide +kernel
theorem dX9_atWord_37 : decode cX9_atWord 37 = .ok (.istore_n 2, 1) := by decide +kernel
theorem dX9_atWord_38 : decode cX9_atWord 38 = .ok (.iload_n 2, 1) := by decide +kernel
theorem dX9_atWord_39 : decode cX9_atWord 39 = .ok (.aload_n 1, 1) := by decide +kernel
theorem dX9_atWord_40 : decode cX9_atWord 40 = .ok (.invokevirtual 76, 3) := by decide +kernel
theorem dX9_atWord_43 : decode cX9_atWord 43 = .ok (.if_icmp .ge 37, 3) := by decide +kernel
theorem dX9_atWord_46 : decode cX9_atWord 46 = .ok (.aload_n 1, 1) := by decide +kernel
theorem dX9_atWord_47 : decode cX9_atWord 47 = .ok (.iload_n 2, 1) := by decide +kernel
theorem dX9_atWord_48 : decode cX9_atWord 48 = .ok (.invokevirtual 81, 3) := by decide +kernel
theorem dX9_atWord_51 : decode cX9_atWord 51 = .ok (.aload_n 0, 1) := by decide +kernel
theorem dX9_atWord_52 : decode cX9_atWord 52 = .ok (.getfield 25, 3) := by decide +kernel
theorem dX9_atWord_55 : decode cX9_atWord 55 = .ok (.aload_n 0, 1) := by decide +kernel
theorem dX9_atWord_56 : decode cX9_atWord 56 = .ok (.getfield 15, 3) := by decide +kernel
theorem dX9_atWord_59 : decode cX9_atWord 59 = .ok (.aload_n 0, 1) := by decide +kernel
theorem dX9_atWord_60 : decode cX9_atWord 60 = .ok (.getfield 32, 3) := by decide +kernel
theorem dX9_atWord_63 : decode cX9_atWord 63 = .ok (.iaload, 1) := by decide +kernel
theorem dX9_atWord_64 : decode cX9_atWord 64 = .ok (.iload_n 2, 1) := by decide +kernel
theorem dX9_atWord_65 : decode cX9_atWord 65 = .ok (.iadd, 1) := by decide +kernel
theorem dX9_atWord_66 : decode cX9_atWord 66 = .ok (.invokevirtual 43, 3) := by decide +kernel
theorem dX9_atWord_69 : decode cX9_atWord 69 = .ok (.if_icmp .eq 5, 3) := by decide +kernel
theorem dX9_atWord_72 : decode cX9_atWord 72 = .ok (.iconst 0, 1) := by decide +kernel
theorem dX9_atWord_73 : decode cX9_atWord 73 = .ok (.ireturn, 1) := by decide +kernel
theorem dX9_atWord_74 : decode cX9_atWord 74 = .ok (.iinc 2 1, 3) := by decide +kernel
theorem dX9_atWord_77 : decode cX9_atWord 77 = .ok (.goto (-39), 3) := by decide +kernel
theorem dX9_atWord_80 : decode cX9_atWord 80 = .ok (.iconst 1, 1) := by decide +kernel
theorem dX9_atWord_81 : decode cX9_atWord 81 = .ok (.ireturn, 1) := by decide +kernel
theorem dX9_atSign_0 : decode cX9_atSign 0 = .ok (.aload_n 0, 1) := by decide +kernel
theorem dX9_atSign_1 : decode cX9_atSign 1 = .ok (.iconst 3, 1) := by decide +kernel
theorem dX9_atSign_2 : decode cX9_atSign 2 = .ok (.invokevirtual 73, 3) := by decide +kernel
theorem dX9_atSign_5 : decode cX9_atSign 5 = .ok (.ifCond .eq 27, 3) := by decide +kernel
theorem dX9_atSign_8 : decode cX9_atSign 8 = .ok (.aload_n 0, 1) := by decide +kernel
theorem dX9_atSign_9 : decode cX9_atSign 9 = .ok (.getfield 25, 3) := by decide +kernel
theorem dX9_atSign_12 : decode cX9_atSign 12 = .ok (.aload_n 0, 1) := by decide +kernel
theorem dX9_atSign_13 : decode cX9_atSign 13 = .ok (.getfield 15, 3) := by decide +kernel
theorem dX9_atSign_16 : decode cX9_atSign 16 = .ok (.aload_n 0, 1) := by decide +kernel
theorem dX9_atSign_17 : decode cX9_atSign 17 = .ok (.getfield 32, 3) := by decide +kernel
theorem dX9_atSign_20 : decode cX9_atSign 20 = .ok (.iaload, 1) := by decide +kernel
theorem dX9_atSign_21 : decode cX9_atSign 21 = .ok (.invokevirtual 43, 3) := by decide +kernel
theorem dX9_atSign_24 : decode cX9_atSign 24 = .ok (.iload_n 1, 1) := by decide +kernel
theorem dX9_atSign_25 : decode cX9_atSign 25 = .ok (.if_icmp .ne 7, 3) := by decide +kernel
theorem dX9_atSign_28 : decode cX9_atSign 28 = .ok (.iconst 1, 1) := by decide +kernel
theorem dX9_atSign_29 : decode cX9_atSign 29 = .ok (.goto 4, 3) := by decide +kernel
theorem dX9_atSign_32 : decode cX9_atSign 32 = .ok (.iconst 0, 1) := by decide +kernel
theorem dX9_atSign_33 : decode cX9_atSign 33 = .ok (.ireturn, 1) := by decide +kernel
theorem dX9_takeWord_0 : decode cX9_takeWord 0 = .ok (.aload_n 0, 1) := by decide +kernel
theorem dX9_takeWord_1 : decode cX9_takeWord 1 = .ok (.aload_n 0, 1) := by decide +kernel
theorem dX9_takeWord_2 : decode cX9_takeWord 2 = .ok (.aload_n 1, 1) := by decide +kernel
theorem dX9_takeWord_3 : decode cX9_takeWord 3 = .ok (.invokevirtual 85, 3) := by decide +kernel
theorem dX9_takeWord_6 : decode cX9_takeWord 6 = .ok (.invokevirtual 89, 3) := by decide +kernel
theorem dX9_takeWord_9 : decode cX9_takeWord 9 = .ok (.return_, 1) := by decide +kernel
theorem dX9_takeAnyWord_0 : decode cX9_takeAnyWord 0 = .ok (.aload_n 0, 1) := by decide +kernel
theorem dX9_takeAnyWord_1 : decode cX9_takeAnyWord 1 = .ok (.aload_n 0, 1) := by decide +kernel
theorem dX9_takeAnyWord_2 : decode cX9_takeAnyWord 2 = .ok (.iconst 1, 1) := by decide +kernel
theorem dX9_takeAnyWord_3 : decode cX9_takeAnyWord 3 = .ok (.invokevirtual 73, 3) := by decide +kernel
theorem dX9_takeAnyWord_6 : decode cX9_takeAnyWord 6 = .ok (.invokevirtual 89, 3) := by decide +kernel
theorem dX9_takeAnyWord_9 : decode cX9_takeAnyWord 9 = .ok (.return_, 1) := by decide +kernel
theorem dX9_takeSign_0 : decode cX9_takeSign 0 = .ok (.aload_n 0, 1) := by decide +kernel
theorem dX9_takeSign_1 : decode cX9_takeSign 1 = .ok (.aload_n 0, 1) := by decide +kernel
theorem dX9_takeSign_2 : decode cX9_takeSign 2 = .ok (.iload_n 1, 1) := by decide +kernel
theorem dX9_takeSign_3 : decode cX9_takeSign 3 = .ok (.invokevirtual 93, 3) := by decide +kernel
theorem dX9_takeSign_6 : decode cX9_takeSign 6 = .ok (.invokevirtual 89, 3) := by decide +kernel
theorem dX9_takeSign_9 : decode cX9_takeSign 9 = .ok (.return_, 1) := by decide +kernel
theorem dX9_takeName_0 : decode cX9_takeName 0 = .ok (.aload_n 0, 1) := by decide +kernel
theorem dX9_takeName_1 : decode cX9_takeName 1 = .ok (.iconst 1, 1) := by decide +kernel
theorem dX9_takeName_2 : decode cX9_takeName 2 = .ok (.invokevirtual 73, 3) := by decide +kernel
theorem dX9_takeName_5 : decode cX9_takeName 5 = .ok (.ifCond .eq 31, 3) := by decide +kernel
theorem dX9_takeName_8 : decode cX9_takeName 8 = .ok (.aload_n 0, 1) := by decide +kernel
theorem dX9_takeName_9 : decode cX9_takeName 9 = .ok (.getfield 25, 3) := by decide +kernel
theorem dX9_takeName_12 : decode cX9_takeName 12 = .ok (.aload_n 0, 1) := by decide +kernel
theorem dX9_takeName_13 : decode cX9_takeName 13 = .ok (.getfield 15, 3) := by decide +kernel
theorem dX9_takeName_16 : decode cX9_takeName 16 = .ok (.aload_n 0, 1) := by decide +kernel
theorem dX9_takeName_17 : decode cX9_takeName 17 = .ok (.getfield 32, 3) := by decide +kernel
theorem dX9_takeName_20 : decode cX9_takeName 20 = .ok (.iaload, 1) := by decide +kernel
theorem dX9_takeName_21 : decode cX9_takeName 21 = .ok (.aload_n 0, 1) := by decide +kernel
theorem dX9_takeName_22 : decode cX9_takeName 22 = .ok (.getfield 18, 3) := by decide +kernel
theorem dX9_takeName_25 : decode cX9_takeName 25 = .ok (.aload_n 0, 1) := by decide +kernel
theorem dX9_takeName_26 : decode cX9_takeName 26 = .ok (.getfield 32, 3) := by decide +kernel
theorem dX9_takeName_29 : decode cX9_takeName 29 = .ok (.iaload, 1) := by decide +kernel
theorem dX9_takeName_30 : decode cX9_takeName 30 = .ok (.invokevirtual 97, 3) := by decide +kernel
theorem dX9_takeName_33 : decode cX9_takeName 33 = .ok (.goto 4, 3) := by decide +kernel
theorem dX9_takeName_36 : decode cX9_takeName 36 = .ok (.lconst 0, 1) := by decide +kernel
theorem dX9_takeName_37 : decode cX9_takeName 37 = .ok (.lstore_n 1, 1) := by decide +kernel
theorem dX9_takeName_38 : decode cX9_takeName 38 = .ok (.aload_n 0, 1) := by decide +kernel
theorem dX9_takeName_39 : decode cX9_takeName 39 = .ok (.lload_n 1, 1) := by decide +kernel
theorem dX9_takeName_40 : decode cX9_takeName 40 = .ok (.lconst 0, 1) := by decide +kernel
theorem dX9_takeName_41 : decode cX9_takeName 41 = .ok (.lcmp, 1) := by decide +kernel
theorem dX9_takeName_42 : decode cX9_takeName 42 = .ok (.ifCond .eq 7, 3) := by decide +kernel
theorem dX9_takeName_45 : decode cX9_takeName 45 = .ok (.iconst 1, 1) := by decide +kernel
theorem dX9_takeName_46 : decode cX9_takeName 46 = .ok (.goto 4, 3) := by decide +kernel
theorem dX9_takeName_49 : decode cX9_takeName 49 = .ok (.iconst 0, 1) := by decide +kernel
theorem dX9_takeName_50 : decode cX9_takeName 50 = .ok (.invokevirtual 89, 3) := by decide +kernel
theorem dX9_takeName_53 : decode cX9_takeName 53 = .ok (.lload_n 1, 1) := by decide +kernel
theorem dX9_takeName_54 : decode cX9_takeName 54 = .ok (.lreturn, 1) := by decide +kernel
theorem dX9_takeNumber_0 : decode cX9_takeNumber 0 = .ok (.aload_n 0, 1) := by decide +kernel
theorem dX9_takeNumber_1 : decode cX9_takeNumber 1 = .ok (.iconst 2, 1) := by decide +kernel
theorem dX9_takeNumber_2 : decode cX9_takeNumber 2 = .ok (.invokevirtual 73, 3) := by decide +kernel
theorem dX9_takeNumber_5 : decode cX9_takeNumber 5 = .ok (.istore_n 3, 1) := by decide +kernel
theorem dX9_takeNumber_6 : decode cX9_takeNumber 6 = .ok (.iload_n 3, 1) := by decide +kernel
theorem dX9_takeNumber_7 : decode cX9_takeNumber 7 = .ok (.ifCond .eq 10, 3) := by decide +kernel
theorem dX9_takeNumber_10 : decode cX9_takeNumber 10 = .ok (.aload_n 0, 1) := by decide +kernel
theorem dX9_takeNumber_11 : decode cX9_takeNumber 11 = .ok (.invokevirtual 101, 3) := by decide +kernel
theorem dX9_takeNumber_14 : decode cX9_takeNumber 14 = .ok (.goto 4, 3) := by decide +kernel
theorem dX9_takeNumber_17 : decode cX9_takeNumber 17 = .ok (.iconst (-1), 1) := by decide +kernel
theorem dX9_takeNumber_18 : decode cX9_takeNumber 18 = .ok (.istore 4, 2) := by decide +kernel
theorem dX9_takeNumber_20 : decode cX9_takeNumber 20 = .ok (.iload_n 3, 1) := by decide +kernel
theorem dX9_takeNumber_21 : decode cX9_takeNumber 21 = .ok (.ifCond .eq 20, 3) := by decide +kernel
theorem dX9_takeNumber_24 : decode cX9_takeNumber 24 = .ok (.iload 4, 2) := by decide +kernel
theorem dX9_takeNumber_26 : decode cX9_takeNumber 26 = .ok (.iload_n 1, 1) := by decide +kernel
theorem dX9_takeNumber_27 : decode cX9_takeNumber 27 = .ok (.if_icmp .lt 9, 3) := by decide +kernel
theorem dX9_takeNumber_30 : decode cX9_takeNumber 30 = .ok (.iload 4, 2) := by decide +kernel
theorem dX9_takeNumber_32 : decode cX9_takeNumber 32 = .ok (.iload_n 2, 1) := by decide +kernel
theorem dX9_takeNumber_33 : decode cX9_takeNumber 33 = .ok (.if_icmp .le 8, 3) := by decide +kernel
theorem dX9_takeNumber_36 : decode cX9_takeNumber 36 = .ok (.aload_n 0, 1) := by decide +kernel
theorem dX9_takeNumber_37 : decode cX9_takeNumber 37 = .ok (.iconst 2, 1) := by decide +kernel
theorem dX9_takeNumber_38 : decode cX9_takeNumber 38 = .ok (.invokevirtual 104, 3) := by decide +kernel
theorem dX9_takeNumber_41 : decode cX9_takeNumber 41 = .ok (.aload_n 0, 1) := by decide +kernel
theorem dX9_takeNumber_42 : decode cX9_takeNumber 42 = .ok (.iload_n 3, 1) := by decide +kernel
theorem dX9_takeNumber_43 : decode cX9_takeNumber 43 = .ok (.invokevirtual 89, 3) := by decide +kernel
theorem dX9_takeNumber_46 : decode cX9_takeNumber 46 = .ok (.aload_n 0, 1) := by decide +kernel
theorem dX9_takeNumber_47 : decode cX9_takeNumber 47 = .ok (.getfield 29, 3) := by decide +kernel
theorem dX9_takeNumber_50 : decode cX9_takeNumber 50 = .ok (.ifCond .ne 8, 3) := by decide +kernel
theorem dX9_takeNumber_53 : decode cX9_takeNumber 53 = .ok (.iload 4, 2) := by decide +kernel
theorem dX9_takeNumber_55 : decode cX9_takeNumber 55 = .ok (.goto 4, 3) := by decide +kernel
theorem dX9_takeNumber_58 : decode cX9_takeNumber 58 = .ok (.iconst (-1), 1) := by decide +kernel
theorem dX9_takeNumber_59 : decode cX9_takeNumber 59 = .ok (.ireturn, 1) := by decide +kernel
theorem dX9_valueHere_0 : decode cX9_valueHere 0 = .ok (.iconst 0, 1) := by decide +kernel
theorem dX9_valueHere_1 : decode cX9_valueHere 1 = .ok (.istore_n 1, 1) := by decide +kernel
theorem dX9_valueHere_2 : decode cX9_valueHere 2 = .ok (.aload_n 0, 1) := by decide +kernel
theorem dX9_valueHere_3 : decode cX9_valueHere 3 = .ok (.getfield 15, 3) := by decide +kernel
theorem dX9_valueHere_6 : decode cX9_valueHere 6 = .ok (.aload_n 0, 1) := by decide +kernel
theorem dX9_valueHere_7 : decode cX9_valueHere 7 = .ok (.getfield 32, 3) := by decide +kernel
theorem dX9_valueHere_10 : decode cX9_valueHere 10 = .ok (.iaload, 1) := by decide +kernel
theorem dX9_valueHere_11 : decode cX9_valueHere 11 = .ok (.istore_n 2, 1) := by decide +kernel
theorem dX9_valueHere_12 : decode cX9_valueHere 12 = .ok (.iload_n 2, 1) := by decide +kernel
theorem dX9_valueHere_13 : decode cX9_valueHere 13 = .ok (.aload_n 0, 1) := by decide +kernel
theorem dX9_valueHere_14 : decode cX9_valueHere 14 = .ok (.getfield 18, 3) := by decide +kernel
theorem dX9_valueHere_17 : decode cX9_valueHere 17 = .ok (.aload_n 0, 1) := by decide +kernel
theorem dX9_valueHere_18 : decode cX9_valueHere 18 = .ok (.getfield 32, 3) := by decide +kernel
theorem dX9_valueHere_21 : decode cX9_valueHere 21 = .ok (.iaload, 1) := by decide +kernel
theorem dX9_valueHere_22 : decode cX9_valueHere 22 = .ok (.if_icmp .ge 31, 3) := by decide +kernel
theorem dX9_valueHere_25 : decode cX9_valueHere 25 = .ok (.ldc 107, 2) := by decide +kernel
theorem dX9_valueHere_27 : decode cX9_valueHere 27 = .ok (.iload_n 1, 1) := by decide +kernel
theorem dX9_valueHere_28 : decode cX9_valueHere 28 = .ok (.bipush 10, 2) := by decide +kernel
theorem dX9_valueHere_30 : decode cX9_valueHere 30 = .ok (.imul, 1) := by decide +kernel
theorem dX9_valueHere_31 : decode cX9_valueHere 31 = .ok (.aload_n 0, 1) := by decide +kernel
theorem dX9_valueHere_32 : decode cX9_valueHere 32 = .ok (.getfield 25, 3) := by decide +kernel
theorem dX9_valueHere_35 : decode cX9_valueHere 35 = .ok (.iload_n 2, 1) := by decide +kernel
theorem dX9_valueHere_36 : decode cX9_valueHere 36 = .ok (.invokevirtual 43, 3) := by decide +kernel
theorem dX9_valueHere_39 : decode cX9_valueHere 39 = .ok (.iadd, 1) := by decide +kernel
theorem dX9_valueHere_40 : decode cX9_valueHere 40 = .ok (.bipush 48, 2) := by decide +kernel
theorem dX9_valueHere_42 : decode cX9_valueHere 42 = .ok (.isub, 1) := by decide +kernel
theorem dX9_valueHere_43 : decode cX9_valueHere 43 = .ok (.invokestatic 108, 3) := by decide +kernel
theorem dX9_valueHere_46 : decode cX9_valueHere 46 = .ok (.istore_n 1, 1) := by decide +kernel
theorem dX9_valueHere_47 : decode cX9_valueHere 47 = .ok (.iinc 2 1, 3) := by decide +kernel
theorem dX9_valueHere_50 : decode cX9_valueHere 50 = .ok (.goto (-38), 3) := by decide +kernel
theorem dX9_valueHere_53 : decode cX9_valueHere 53 = .ok (.iload_n 1, 1) := by decide +kernel
theorem dX9_valueHere_54 : decode cX9_valueHere 54 = .ok (.ireturn, 1) := by decide +kernel
theorem dX9_takeSide_0 : decode cX9_takeSide 0 = .ok (.aload_n 0, 1) := by decide +kernel
theorem dX9_takeSide_1 : decode cX9_takeSide 1 = .ok (.ldc 114, 2) := by decide +kernel
theorem dX9_takeSide_3 : decode cX9_takeSide 3 = .ok (.invokevirtual 85, 3) := by decide +kernel
theorem dX9_takeSide_6 : decode cX9_takeSide 6 = .ok (.ifCond .eq 7, 3) := by decide +kernel
theorem dX9_takeSide_9 : decode cX9_takeSide 9 = .ok (.iconst (-1), 1) := by decide +kernel
theorem dX9_takeSide_10 : decode cX9_takeSide 10 = .ok (.goto 4, 3) := by decide +kernel
theorem dX9_takeSide_13 : decode cX9_takeSide 13 = .ok (.iconst 1, 1) := by decide +kernel
theorem dX9_takeSide_14 : decode cX9_takeSide 14 = .ok (.istore_n 1, 1) := by decide +kernel
theorem dX9_takeSide_15 : decode cX9_takeSide 15 = .ok (.aload_n 0, 1) := by decide +kernel
theorem dX9_takeSide_16 : decode cX9_takeSide 16 = .ok (.aload_n 0, 1) := by decide +kernel
theorem dX9_takeSide_17 : decode cX9_takeSide 17 = .ok (.ldc 114, 2) := by decide +kernel
theorem dX9_takeSide_19 : decode cX9_takeSide 19 = .ok (.invokevirtual 85, 3) := by decide +kernel
theorem dX9_takeSide_22 : decode cX9_takeSide 22 = .ok (.ifCond .ne 12, 3) := by decide +kernel
theorem dX9_takeSide_25 : decode cX9_takeSide 25 = .ok (.aload_n 0, 1) := by decide +kernel
theorem dX9_takeSide_26 : decode cX9_takeSide 26 = .ok (.ldc 116, 2) := by decide +kernel
theorem dX9_takeSide_28 : decode cX9_takeSide 28 = .ok (.invokevirtual 85, 3) := by decide +kernel
theorem dX9_takeSide_31 : decode cX9_takeSide 31 = .ok (.ifCond .eq 7, 3) := by decide +kernel
theorem dX9_takeSide_34 : decode cX9_takeSide 34 = .ok (.iconst 1, 1) := by decide +kernel
theorem dX9_takeSide_35 : decode cX9_takeSide 35 = .ok (.goto 4, 3) := by decide +kernel
theorem dX9_takeSide_38 : decode cX9_takeSide 38 = .ok (.iconst 0, 1) := by decide +kernel
theorem dX9_takeSide_39 : decode cX9_takeSide 39 = .ok (.invokevirtual 89, 3) := by decide +kernel
theorem dX9_takeSide_42 : decode cX9_takeSide 42 = .ok (.iload_n 1, 1) := by decide +kernel
theorem dX9_takeSide_43 : decode cX9_takeSide 43 = .ok (.ireturn, 1) := by decide +kernel
theorem dX9_takeEnd_0 : decode cX9_takeEnd 0 = .ok (.aload_n 0, 1) := by decide +kernel
theorem dX9_takeEnd_1 : decode cX9_takeEnd 1 = .ok (.iconst 4, 1) := by decide +kernel
theorem dX9_takeEnd_2 : decode cX9_takeEnd 2 = .ok (.invokevirtual 73, 3) := by decide +kernel
theorem dX9_takeEnd_5 : decode cX9_takeEnd 5 = .ok (.ifCond .ne 8, 3) := by decide +kernel
theorem dX9_takeEnd_8 : decode cX9_takeEnd 8 = .ok (.aload_n 0, 1) := by decide +kernel
theorem dX9_takeEnd_9 : decode cX9_takeEnd 9 = .ok (.iconst 1, 1) := by decide +kernel
theorem dX9_takeEnd_10 : decode cX9_takeEnd 10 = .ok (.invokevirtual 104, 3) := by decide +kernel
theorem dX9_takeEnd_13 : decode cX9_takeEnd 13 = .ok (.return_, 1) := by decide +kernel
theorem dX9_takeIf_0 : decode cX9_takeIf 0 = .ok (.iload_n 1, 1) := by decide +kernel
theorem dX9_takeIf_1 : decode cX9_takeIf 1 = .ok (.ifCond .ne 15, 3) := by decide +kernel
theorem dX9_takeIf_4 : decode cX9_takeIf 4 = .ok (.aload_n 0, 1) := by decide +kernel
theorem dX9_takeIf_5 : decode cX9_takeIf 5 = .ok (.aload_n 0, 1) := by decide +kernel
theorem dX9_takeIf_6 : decode cX9_takeIf 6 = .ok (.getfield 32, 3) := by decide +kernel
theorem dX9_takeIf_9 : decode cX9_takeIf 9 = .ok (.iconst 1, 1) := by decide +kernel
theorem dX9_takeIf_10 : decode cX9_takeIf 10 = .ok (.invokevirtual 65, 3) := by decide +kernel
theorem dX9_takeIf_13 : decode cX9_takeIf 13 = .ok (.goto 20, 3) := by decide +kernel
theorem dX9_takeIf_16 : decode cX9_takeIf 16 = .ok (.aload_n 0, 1) := by decide +kernel
theorem dX9_takeIf_17 : decode cX9_takeIf 17 = .ok (.getfield 29, 3) := by decide +kernel
theorem dX9_takeIf_20 : decode cX9_takeIf 20 = .ok (.ifCond .ne 13, 3) := by decide +kernel
theorem dX9_takeIf_23 : decode cX9_takeIf 23 = .ok (.aload_n 0, 1) := by decide +kernel
theorem dX9_takeIf_24 : decode cX9_takeIf 24 = .ok (.dup, 1) := by decide +kernel
theorem dX9_takeIf_25 : decode cX9_takeIf 25 = .ok (.getfield 32, 3) := by decide +kernel
theorem dX9_takeIf_28 : decode cX9_takeIf 28 = .ok (.iconst 1, 1) := by decide +kernel
theorem dX9_takeIf_29 : decode cX9_takeIf 29 = .ok (.iadd, 1) := by decide +kernel
theorem dX9_takeIf_30 : decode cX9_takeIf 30 = .ok (.putfield 32, 3) := by decide +kernel
theorem dX9_takeIf_33 : decode cX9_takeIf 33 = .ok (.return_, 1) := by decide +kernel
theorem dX10_init_0 : decode cX10_init 0 = .ok (.aload_n 0, 1) := by decide +kernel
theorem dX10_init_1 : decode cX10_init 1 = .ok (.invokespecial 3, 3) := by decide +kernel
theorem dX10_init_4 : decode cX10_init 4 = .ok (.aload_n 0, 1) := by decide +kernel
theorem dX10_init_5 : decode cX10_init 5 = .ok (.iload_n 1, 1) := by decide +kernel
theorem dX10_init_6 : decode cX10_init 6 = .ok (.putfield 9, 3) := by decide +kernel
theorem dX10_init_9 : decode cX10_init 9 = .ok (.return_, 1) := by decide +kernel
theorem dX10_isSeated_0 : decode cX10_isSeated 0 = .ok (.aload_n 0, 1) := by decide +kernel
theorem dX10_isSeated_1 : decode cX10_isSeated 1 = .ok (.getfield 15, 3) := by decide +kernel
theorem dX10_isSeated_4 : decode cX10_isSeated 4 = .ok (.iconst (-1), 1) := by decide +kernel
theorem dX10_isSeated_5 : decode cX10_isSeated 5 = .ok (.if_icmp .eq 7, 3) := by decide +kernel
theorem dX10_isSeated_8 : decode cX10_isSeated 8 = .ok (.iconst 1, 1) := by decide +kernel
theorem dX10_isSeated_9 : decode cX10_isSeated 9 = .ok (.goto 4, 3) := by decide +kernel
theorem dX10_isSeated_12 : decode cX10_isSeated 12 = .ok (.iconst 0, 1) := by decide +kernel
theorem dX10_isSeated_13 : decode cX10_isSeated 13 = .ok (.ireturn, 1) := by decide +kernel
theorem dX10_copyFrom_0 : decode cX10_copyFrom 0 = .ok (.aload_n 0, 1) := by decide +kernel
theorem dX10_copyFrom_1 : decode cX10_copyFrom 1 = .ok (.aload_n 1, 1) := by decide +kernel
theorem dX10_copyFrom_2 : decode cX10_copyFrom 2 = .ok (.getfield 18, 3) := by decide +kernel
theorem dX10_copyFrom_5 : decode cX10_copyFrom 5 = .ok (.putfield 18, 3) := by decide +kernel
theorem dX10_copyFrom_8 : decode cX10_copyFrom 8 = .ok (.aload_n 0, 1) := by decide +kernel
theorem dX10_copyFrom_9 : decode cX10_copyFrom 9 = .ok (.aload_n 1, 1) := by decide +kernel
theorem dX10_copyFrom_10 : decode cX10_copyFrom 10 = .ok (.getfield 22, 3) := by decide +kernel
theorem dX10_copyFrom_13 : decode cX10_copyFrom 13 = .ok (.putfield 22, 3) := by decide +kernel
theorem dX10_copyFrom_16 : decode cX10_copyFrom 16 = .ok (.aload_n 0, 1) := by decide +kernel
theorem dX10_copyFrom_17 : decode cX10_copyFrom 17 = .ok (.aload_n 1, 1) := by decide +kernel
theorem dX10_copyFrom_18 : decode cX10_copyFrom 18 = .ok (.getfield 25, 3) := by decide +kernel
theorem dX10_copyFrom_21 : decode cX10_copyFrom 21 = .ok (.putfield 25, 3) := by decide +kernel
theorem dX10_copyFrom_24 : decode cX10_copyFrom 24 = .ok (.aload_n 0, 1) := by decide +kernel
theorem dX10_copyFrom_25 : decode cX10_copyFrom 25 = .ok (.aload_n 1, 1) := by decide +kernel
theorem dX10_copyFrom_26 : decode cX10_copyFrom 26 = .ok (.getfield 28, 3) := by decide +kernel
theorem dX10_copyFrom_29 : decode cX10_copyFrom 29 = .ok (.putfield 28, 3) := by decide +kernel
theorem dX10_copyFrom_32 : decode cX10_copyFrom 32 = .ok (.aload_n 0, 1) := by decide +kernel
theorem dX10_copyFrom_33 : decode cX10_copyFrom 33 = .ok (.aload_n 1, 1) := by decide +kernel
theorem dX10_copyFrom_34 : decode cX10_copyFrom 34 = .ok (.getfield 31, 3) := by decide +kernel
theorem dX10_copyFrom_37 : decode cX10_copyFrom 37 = .ok (.putfield 31, 3) := by decide +kernel
theorem dX10_copyFrom_40 : decode cX10_copyFrom 40 = .ok (.aload_n 0, 1) := by decide +kernel
theorem dX10_copyFrom_41 : decode cX10_copyFrom 41 = .ok (.aload_n 1, 1) := by decide +kernel
theorem dX10_copyFrom_42 : decode cX10_copyFrom 42 = .ok (.getfield 15, 3) := by decide +kernel
theorem dX10_copyFrom_45 : decode cX10_copyFrom 45 = .ok (.putfield 15, 3) := by decide +kernel
theorem dX10_copyFrom_48 : decode cX10_copyFrom 48 = .ok (.aload_n 0, 1) := by decide +kernel
theorem dX10_copyFrom_49 : decode cX10_copyFrom 49 = .ok (.aload_n 1, 1) := by decide +kernel
theorem dX10_copyFrom_50 : decode cX10_copyFrom 50 = .ok (.getfield 35, 3) := by decide +kernel
theorem dX10_copyFrom_53 : decode cX10_copyFrom 53 = .ok (.putfield 35, 3) := by decide +kernel
theorem dX10_copyFrom_56 : decode cX10_copyFrom 56 = .ok (.return_, 1) := by decide +kernel
theorem dX11_init_0 : decode cX11_init 0 = .ok (.aload_n 0, 1) := by decide +kernel
theorem dX11_init_1 : decode cX11_init 1 = .ok (.invokespecial 1, 3) := by decide +kernel
theorem dX11_init_4 : decode cX11_init 4 = .ok (.aload_n 0, 1) := by decide +kernel
theorem dX11_init_5 : decode cX11_init 5 = .ok (.new 7, 3) := by decide +kernel
theorem dX11_init_8 : decode cX11_init 8 = .ok (.dup, 1) := by decide +kernel
theorem dX11_init_9 : decode cX11_init 9 = .ok (.invokespecial 9, 3) := by decide +kernel
theorem dX11_init_12 : decode cX11_init 12 = .ok (.putfield 10, 3) := by decide +kernel
theorem dX11_init_15 : decode cX11_init 15 = .ok (.aload_n 0, 1) := by decide +kernel
theorem dX11_init_16 : decode cX11_init 16 = .ok (.new 7, 3) := by decide +kernel
theorem dX11_init_19 : decode cX11_init 19 = .ok (.dup, 1) := by decide +kernel
theorem dX11_init_20 : decode cX11_init 20 = .ok (.invokespecial 9, 3) := by decide +kernel
theorem dX11_init_23 : decode cX11_init 23 = .ok (.putfield 16, 3) := by decide +kernel
theorem dX11_init_26 : decode cX11_init 26 = .ok (.aload_n 0, 1) := by decide +kernel
theorem dX11_init_27 : decode cX11_init 27 = .ok (.new 19, 3) := by decide +kernel
theorem dX11_init_30 : decode cX11_init 30 = .ok (.dup, 1) := by decide +kernel
theorem dX11_init_31 : decode cX11_init 31 = .ok (.aload_n 0, 1) := by decide +kernel
theorem dX11_init_32 : decode cX11_init 32 = .ok (.getfield 10, 3) := by decide +kernel
theorem dX11_init_35 : decode cX11_init 35 = .ok (.invokespecial 21, 3) := by decide +kernel
theorem dX11_init_38 : decode cX11_init 38 = .ok (.putfield 24, 3) := by decide +kernel
theorem dX11_init_41 : decode cX11_init 41 = .ok (.aload_n 0, 1) := by decide +kernel
theorem dX11_init_42 : decode cX11_init 42 = .ok (.new 28, 3) := by decide +kernel
theorem dX11_init_45 : decode cX11_init 45 = .ok (.dup, 1) := by decide +kernel
theorem dX11_init_46 : decode cX11_init 46 = .ok (.invokespecial 30, 3) := by decide +kernel
theorem dX11_init_49 : decode cX11_init 49 = .ok (.putfield 31, 3) := by decide +kernel
theorem dX11_init_52 : decode cX11_init 52 = .ok (.aload_n 0, 1) := by decide +kernel
theorem dX11_init_53 : decode cX11_init 53 = .ok (.new 35, 3) := by decide +kernel
theorem dX11_init_56 : decode cX11_init 56 = .ok (.dup, 1) := by decide +kernel
theorem dX11_init_57 : decode cX11_init 57 = .ok (.invokespecial 37, 3) := by decide +kernel
theorem dX11_init_60 : decode cX11_init 60 = .ok (.putfield 38, 3) := by decide +kernel
theorem dX11_init_63 : decode cX11_init 63 = .ok (.aload_n 0, 1) := by decide +kernel
theorem dX11_init_64 : decode cX11_init 64 = .ok (.new 35, 3) := by decide +kernel
theorem dX11_init_67 : decode cX11_init 67 = .ok (.dup, 1) := by decide +kernel
theorem dX11_init_68 : decode cX11_init 68 = .ok (.invokespecial 37, 3) := by decide +kernel
theorem dX11_init_71 : decode cX11_init 71 = .ok (.putfield 42, 3) := by decide +kernel
theorem dX11_init_74 : decode cX11_init 74 = .ok (.aload_n 0, 1) := by decide +kernel
theorem dX11_init_75 : decode cX11_init 75 = .ok (.new 45, 3) := by decide +kernel
theorem dX11_init_78 : decode cX11_init 78 = .ok (.dup, 1) := by decide +kernel
theorem dX11_init_79 : decode cX11_init 79 = .ok (.invokespecial 47, 3) := by decide +kernel
theorem dX11_init_82 : decode cX11_init 82 = .ok (.putfield 48, 3) := by decide +kernel
theorem dX11_init_85 : decode cX11_init 85 = .ok (.aload_n 0, 1) := by decide +kernel
theorem dX11_init_86 : decode cX11_init 86 = .ok (.iconst 2, 1) := by decide +kernel
theorem dX11_init_87 : decode cX11_init 87 = .ok (.anewarray 35, 3) := by decide +kernel
theorem dX11_init_90 : decode cX11_init 90 = .ok (.putfield 52, 3) := by decide +kernel
theorem dX11_init_93 : decode cX11_init 93 = .ok (.aload_n 0, 1) := by decide +kernel
theorem dX11_init_94 : decode cX11_init 94 = .ok (.iconst 2, 1) := by decide +kernel
theorem dX11_init_95 : decode cX11_init 95 = .ok (.newarray .boolean, 2) := by decide +kernel
theorem dX11_init_97 : decode cX11_init 97 = .ok (.putfield 56, 3) := by decide +kernel
theorem dX11_init_100 : decode cX11_init 100 = .ok (.iconst 0, 1) := by decide +kernel
theorem dX11_init_101 : decode cX11_init 101 = .ok (.istore_n 1, 1) := by decide +kernel
theorem dX11_init_102 : decode cX11_init 102 = .ok (.iload_n 1, 1) := by decide +kernel
theorem dX11_init_103 : decode cX11_init 103 = .ok (.aload_n 0, 1) := by decide +kernel
theorem dX11_init_104 : decode cX11_init 104 = .ok (.getfield 52, 3) := by decide +kernel
theorem dX11_init_107 : decode cX11_init 107 = .ok (.arraylength, 1) := by decide +kernel
theorem dX11_init_108 : decode cX11_init 108 = .ok (.if_icmp .ge 22, 3) := by decide +kernel
theorem dX11_init_111 : decode cX11_init 111 = .ok (.aload_n 0, 1) := by decide +kernel
theorem dX11_init_112 : decode cX11_init 112 = .ok (.getfield 52, 3) := by decide +kernel
theorem dX11_init_115 : decode cX11_init 115 = .ok (.iload_n 1, 1) := by decide +kernel
theorem dX11_init_116 : decode cX11_init 116 = .ok (.new 35, 3) := by decide +kernel
theorem dX11_init_119 : decode cX11_init 119 = .ok (.dup, 1) := by decide +kernel
theorem dX11_init_120 : decode cX11_init 120 = .ok (.invokespecial 37, 3) := by decide +kernel
theorem dX11_init_123 : decode cX11_init 123 = .ok (.aastore, 1) := by decide +kernel
theorem dX11_init_124 : decode cX11_init 124 = .ok (.iinc 1 1, 3) := by decide +kernel
theorem dX11_init_127 : decode cX11_init 127 = .ok (.goto (-25), 3) := by decide +kernel
theorem dX11_init_130 : decode cX11_init 130 = .ok (.aload_n 0, 1) := by decide +kernel
theorem dX11_init_131 : decode cX11_init 131 = .ok (.getfield 10, 3) := by decide +kernel
theorem dX11_init_134 : decode cX11_init 134 = .ok (.ldc 60, 2) := by decide +kernel
theorem dX11_init_136 : decode cX11_init 136 = .ok (.invokevirtual 62, 3) := by decide +kernel
theorem dX11_init_139 : decode cX11_init 139 = .ok (.aload_n 0, 1) := by decide +kernel
theorem dX11_init_140 : decode cX11_init 140 = .ok (.getfield 10, 3) := by decide +kernel
theorem dX11_init_143 : decode cX11_init 143 = .ok (.ldc 66, 2) := by decide +kernel
theorem dX11_init_145 : decode cX11_init 145 = .ok (.invokevirtual 62, 3) := by decide +kernel
theorem dX11_init_148 : decode cX11_init 148 = .ok (.aload_n 0, 1) := by decide +kernel
theorem dX11_init_149 : decode cX11_init 149 = .ok (.getfield 10, 3) := by decide +kernel
theorem dX11_init_152 : decode cX11_init 152 = .ok (.ldc 68, 2) := by decide +kernel
theorem dX11_init_154 : decode cX11_init 154 = .ok (.invokevirtual 62, 3) := by decide +kernel
theorem dX11_init_157 : decode cX11_init 157 = .ok (.aload_n 0, 1) := by decide +kernel
theorem dX11_init_158 : decode cX11_init 158 = .ok (.invokevirtual 70, 3) := by decide +kernel
theorem dX11_init_161 : decode cX11_init 161 = .ok (.return_, 1) := by decide +kernel
theorem dX11_append_0 : decode cX11_append 0 = .ok (.iload_n 1, 1) := by decide +kernel
theorem dX11_append_1 : decode cX11_append 1 = .ok (.invokestatic 73, 3) := by decide +kernel
theorem dX11_append_4 : decode cX11_append 4 = .ok (.iload_n 2, 1) := by decide +kernel
theorem dX11_append_5 : decode cX11_append 5 = .ok (.invokestatic 73, 3) := by decide +kernel
theorem dX11_append_8 : decode cX11_append 8 = .ok (.iadd, 1) := by decide +kernel
theorem dX11_append_9 : decode cX11_append 9 = .ok (.iload_n 3, 1) := by decide +kernel
theorem dX11_append_10 : decode cX11_append 10 = .ok (.invokestatic 73, 3) := by decide +kernel
theorem dX11_append_13 : decode cX11_append 13 = .ok (.iadd, 1) := by decide +kernel
theorem dX11_append_14 : decode cX11_append 14 = .ok (.iload 4, 2) := by decide +kernel
theorem dX11_append_16 : decode cX11_append 16 = .ok (.invokestatic 73, 3) := by decide +kernel
theorem dX11_append_19 : decode cX11_append 19 = .ok (.iadd, 1) := by decide +kernel
theorem dX11_append_20 : decode cX11_append 20 = .ok (.iload 5, 2) := by decide +kernel
theorem dX11_append_22 : decode cX11_append 22 = .ok (.invokestatic 73, 3) := by decide +kernel
theorem dX11_append_25 : decode cX11_append 25 = .ok (.iadd, 1) := by decide +kernel
theorem dX11_append_26 : decode cX11_append 26 = .ok (.istore 6, 2) := by decide +kernel
theorem dX11_append_28 : decode cX11_append 28 = .ok (.aload_n 0, 1) := by decide +kernel
theorem dX11_append_29 : decode cX11_append 29 = .ok (.getfield 10, 3) := by decide +kernel
theorem dX11_append_32 : decode cX11_append 32 = .ok (.getfield 77, 3) := by decide +kernel
theorem dX11_append_35 : decode cX11_append 35 = .ok (.iload 6, 2) := by decide +kernel
theorem dX11_append_37 : decode cX11_append 37 = .ok (.iadd, 1) := by decide +kernel
theorem dX11_append_38 : decode cX11_append 38 = .ok (.sipush 800, 3) := by decide +kernel
theorem dX11_append_41 : decode cX11_append 41 = .ok (.if_icmp .le 13, 3) := by decide +kernel
theorem dX11_append_44 : decode cX11_append 44 = .ok (.new 81, 3) := by decide +kernel
theorem dX11_append_47 : decode cX11_append 47 = .ok (.dup, 1) := by decide +kernel
theorem dX11_append_48 : decode cX11_append 48 = .ok (.ldc 83, 2) := by decide +kernel
theorem dX11_append_50 : decode cX11_append 50 = .ok (.invokespecial 85, 3) := by decide +kernel
theorem dX11_append_53 : decode cX11_append 53 = .ok (.athrow, 1) := by decide +kernel
theorem dX11_append_54 : decode cX11_append 54 = .ok (.aload_n 0, 1) := by decide +kernel
theorem dX11_append_55 : decode cX11_append 55 = .ok (.getfield 10, 3) := by decide +kernel
theorem dX11_append_58 : decode cX11_append 58 = .ok (.iload_n 1, 1) := by decide +kernel
theorem dX11_append_59 : decode cX11_append 59 = .ok (.invokevirtual 87, 3) := by decide +kernel
theorem dX11_append_62 : decode cX11_append 62 = .ok (.aload_n 0, 1) := by decide +kernel
theorem dX11_append_63 : decode cX11_append 63 = .ok (.getfield 10, 3) := by decide +kernel
theorem dX11_append_66 : decode cX11_append 66 = .ok (.iload_n 2, 1) := by decide +kernel
theorem dX11_append_67 : decode cX11_append 67 = .ok (.invokevirtual 87, 3) := by decide +kernel
theorem dX11_append_70 : decode cX11_append 70 = .ok (.aload_n 0, 1) := by decide +kernel
theorem dX11_append_71 : decode cX11_append 71 = .ok (.getfield 10, 3) := by decide +kernel
theorem dX11_append_74 : decode cX11_append 74 = .ok (.iload_n 3, 1) := by decide +kernel
theorem dX11_append_75 : decode cX11_append 75 = .ok (.invokevirtual 87, 3) := by decide +kernel
theorem dX11_append_78 : decode cX11_append 78 = .ok (.aload_n 0, 1) := by decide +kernel
theorem dX11_append_79 : decode cX11_append 79 = .ok (.getfield 10, 3) := by decide +kernel
theorem dX11_append_82 : decode cX11_append 82 = .ok (.iload 4, 2) := by decide +kernel
theorem dX11_append_84 : decode cX11_append 84 = .ok (.invokevirtual 87, 3) := by decide +kernel
theorem dX11_append_87 : decode cX11_append 87 = .ok (.aload_n 0, 1) := by decide +kernel
theorem dX11_append_88 : decode cX11_append 88 = .ok (.getfield 10, 3) := by decide +kernel
theorem dX11_append_91 : decode cX11_append 91 = .ok (.iload 5, 2) := by decide +kernel
theorem dX11_append_93 : decode cX11_append 93 = .ok (.invokevirtual 87, 3) := by decide +kernel
theorem dX11_append_96 : decode cX11_append 96 = .ok (.aload_n 0, 1) := by decide +kernel
theorem dX11_append_97 : decode cX11_append 97 = .ok (.getfield 10, 3) := by decide +kernel
theorem dX11_append_100 : decode cX11_append 100 = .ok (.getfield 77, 3) := by decide +kernel
theorem dX11_append_103 : decode cX11_append 103 = .ok (.ireturn, 1) := by decide +kernel
theorem dX11_truncate_0 : decode cX11_truncate 0 = .ok (.iload_n 1, 1) := by decide +kernel
theorem dX11_truncate_1 : decode cX11_truncate 1 = .ok (.iconst 0, 1) := by decide +kernel
theorem dX11_truncate_2 : decode cX11_truncate 2 = .ok (.aload_n 0, 1) := by decide +kernel
theorem dX11_truncate_3 : decode cX11_truncate 3 = .ok (.getfield 10, 3) := by decide +kernel
theorem dX11_truncate_6 : decode cX11_truncate 6 = .ok (.getfield 77, 3) := by decide +kernel
theorem dX11_truncate_9 : decode cX11_truncate 9 = .ok (.invokestatic 91, 3) := by decide +kernel
theorem dX11_truncate_12 : decode cX11_truncate 12 = .ok (.aload_n 0, 1) := by decide +kernel
theorem dX11_truncate_13 : decode cX11_truncate 13 = .ok (.getfield 10, 3) := by decide +kernel
theorem dX11_truncate_16 : decode cX11_truncate 16 = .ok (.iload_n 1, 1) := by decide +kernel
theorem dX11_truncate_17 : decode cX11_truncate 17 = .ok (.putfield 77, 3) := by decide +kernel
theorem dX11_truncate_20 : decode cX11_truncate 20 = .ok (.iload_n 1, 1) := by decide +kernel
theorem dX11_truncate_21 : decode cX11_truncate 21 = .ok (.ireturn, 1) := by decide +kernel
theorem dX11_load_0 : decode cX11_load 0 = .ok (.aload_n 0, 1) := by decide +kernel
theorem dX11_load_1 : decode cX11_load 1 = .ok (.invokevirtual 70, 3) := by decide +kernel
theorem dX11_load_4 : decode cX11_load 4 = .ok (.aload_n 0, 1) := by decide +kernel
theorem dX11_load_5 : decode cX11_load 5 = .ok (.getfield 24, 3) := by decide +kernel
theorem dX11_load_8 : decode cX11_load 8 = .ok (.getfield 95, 3) := by decide +kernel
theorem dX11_load_11 : decode cX11_load 11 = .ok (.ireturn, 1) := by decide +kernel
theorem dX11_errorPosition_0 : decode cX11_errorPosition 0 = .ok (.aload_n 0, 1) := by decide +kernel
theorem dX11_errorPosition_1 : decode cX11_errorPosition 1 = .ok (.getfield 24, 3) := by decide +kernel
theorem dX11_errorPosition_4 : decode cX11_errorPosition 4 = .ok (.getfield 126, 3) := by decide +kernel
theorem dX11_errorPosition_7 : decode cX11_errorPosition 7 = .ok (.ireturn, 1) := by decide +kernel
theorem dX11_day_0 : decode cX11_day 0 = .ok (.aload_n 0, 1) := by decide +kernel
theorem dX11_day_1 : decode cX11_day 1 = .ok (.getfield 38, 3) := by decide +kernel
theorem dX11_day_4 : decode cX11_day 4 = .ok (.getfield 129, 3) := by decide +kernel
theorem dX11_day_7 : decode cX11_day 7 = .ok (.ireturn, 1) := by decide +kernel
theorem dX11_bank_0 : decode cX11_bank 0 = .ok (.aload_n 0, 1) := by decide +kernel
theorem dX11_bank_1 : decode cX11_bank 1 = .ok (.getfield 38, 3) := by decide +kernel
theorem dX11_bank_4 : decode cX11_bank 4 = .ok (.getfield 132, 3) := by decide +kernel
theorem dX11_bank_7 : decode cX11_bank 7 = .ok (.ireturn, 1) := by decide +kernel
theorem dX11_torque_0 : decode cX11_torque 0 = .ok (.aload_n 0, 1) := by decide +kernel
theorem dX11_torque_1 : decode cX11_torque 1 = .ok (.getfield 38, 3) := by decide +kernel
theorem dX11_torque_4 : decode cX11_torque 4 = .ok (.aload_n 0, 1) := by decide +kernel
theorem dX11_torque_5 : decode cX11_torque 5 = .ok (.iload_n 1, 1) := by decide +kernel
theorem dX11_torque_6 : decode cX11_torque 6 = .ok (.invokevirtual 147, 3) := by decide +kernel
theorem dX11_torque_9 : decode cX11_torque 9 = .ok (.invokevirtual 159, 3) := by decide +kernel
theorem dX11_torque_12 : decode cX11_torque 12 = .ok (.ireturn, 1) := by decide +kernel
theorem dX11_tilt_0 : decode cX11_tilt 0 = .ok (.aload_n 0, 1) := by decide +kernel
theorem dX11_tilt_1 : decode cX11_tilt 1 = .ok (.iload_n 1, 1) := by decide +kernel
theorem dX11_tilt_2 : decode cX11_tilt 2 = .ok (.invokevirtual 147, 3) := by decide +kernel
theorem dX11_tilt_5 : decode cX11_tilt 5 = .ok (.astore_n 2, 1) := by decide +kernel
theorem dX11_tilt_6 : decode cX11_tilt 6 = .ok (.aload_n 2, 1) := by decide +kernel
theorem dX11_tilt_7 : decode cX11_tilt 7 = .ok (.aload_n 0, 1) := by decide +kernel
theorem dX11_tilt_8 : decode cX11_tilt 8 = .ok (.getfield 38, 3) := by decide +kernel
theorem dX11_tilt_11 : decode cX11_tilt 11 = .ok (.aload_n 2, 1) := by decide +kernel
theorem dX11_tilt_12 : decode cX11_tilt 12 = .ok (.invokevirtual 159, 3) := by decide +kernel
theorem dX11_tilt_15 : decode cX11_tilt 15 = .ok (.invokevirtual 163, 3) := by decide +kernel
theorem dX11_tilt_18 : decode cX11_tilt 18 = .ok (.ireturn, 1) := by decide +kernel
theorem dX11_seatOwner_0 : decode cX11_seatOwner 0 = .ok (.aload_n 0, 1) := by decide +kernel
theorem dX11_seatOwner_1 : decode cX11_seatOwner 1 = .ok (.iload_n 1, 1) := by decide +kernel
theorem dX11_seatOwner_2 : decode cX11_seatOwner 2 = .ok (.iload_n 2, 1) := by decide +kernel
theorem dX11_seatOwner_3 : decode cX11_seatOwner 3 = .ok (.invokevirtual 166, 3) := by decide +kernel
theorem dX11_seatOwner_6 : decode cX11_seatOwner 6 = .ok (.iload_n 2, 1) := by decide +kernel
theorem dX11_seatOwner_7 : decode cX11_seatOwner 7 = .ok (.invokevirtual 170, 3) := by decide +kernel
theorem dX11_seatOwner_10 : decode cX11_seatOwner 10 = .ok (.ireturn, 1) := by decide +kernel
theorem dX11_seatHeight_0 : decode cX11_seatHeight 0 = .ok (.aload_n 0, 1) := by decide +kernel
theorem dX11_seatHeight_1 : decode cX11_seatHeight 1 = .ok (.getfield 38, 3) := by decide +kernel
theorem dX11_seatHeight_4 : decode cX11_seatHeight 4 = .ok (.aload_n 0, 1) := by decide +kernel
theorem dX11_seatHeight_5 : decode cX11_seatHeight 5 = .ok (.iload_n 1, 1) := by decide +kernel
theorem dX11_seatHeight_6 : decode cX11_seatHeight 6 = .ok (.iload_n 2, 1) := by decide +kernel
theorem dX11_seatHeight_7 : decode cX11_seatHeight 7 = .ok (.invokevirtual 166, 3) := by decide +kernel
theorem dX11_seatHeight_10 : decode cX11_seatHeight 10 = .ok (.iload_n 2, 1) := by decide +kernel
theorem dX11_seatHeight_11 : decode cX11_seatHeight 11 = .ok (.invokevirtual 173, 3) := by decide +kernel
theorem dX11_seatHeight_14 : decode cX11_seatHeight 14 = .ok (.ireturn, 1) := by decide +kernel
theorem dX11_seatPrice_0 : decode cX11_seatPrice 0 = .ok (.aload_n 0, 1) := by decide +kernel
theorem dX11_seatPrice_1 : decode cX11_seatPrice 1 = .ok (.getfield 38, 3) := by decide +kernel
theorem dX11_seatPrice_4 : decode cX11_seatPrice 4 = .ok (.aload_n 0, 1) := by decide +kernel
theorem dX11_seatPrice_5 : decode cX11_seatPrice 5 = .ok (.iload_n 1, 1) := by decide +kernel
theorem dX11_seatPrice_6 : decode cX11_seatPrice 6 = .ok (.iload_n 2, 1) := by decide +kernel
theorem dX11_seatPrice_7 : decode cX11_seatPrice 7 = .ok (.invokevirtual 166, 3) := by decide +kernel
theorem dX11_seatPrice_10 : decode cX11_seatPrice 10 = .ok (.iload_n 2, 1) := by decide +kernel
theorem dX11_seatPrice_11 : decode cX11_seatPrice 11 = .ok (.invokevirtual 177, 3) := by decide +kernel
theorem dX11_seatPrice_14 : decode cX11_seatPrice 14 = .ok (.ireturn, 1) := by decide +kernel
theorem dX11_weightOf_0 : decode cX11_weightOf 0 = .ok (.aload_n 0, 1) := by decide +kernel
theorem dX11_weightOf_1 : decode cX11_weightOf 1 = .ok (.iload_n 1, 1) := by decide +kernel
theorem dX11_weightOf_2 : decode cX11_weightOf 2 = .ok (.invokevirtual 199, 3) := by decide +kernel
theorem dX11_weightOf_5 : decode cX11_weightOf 5 = .ok (.getfield 211, 3) := by decide +kernel
theorem dX11_weightOf_8 : decode cX11_weightOf 8 = .ok (.ireturn, 1) := by decide +kernel
theorem dX11_purseOf_0 : decode cX11_purseOf 0 = .ok (.aload_n 0, 1) := by decide +kernel
theorem dX11_purseOf_1 : decode cX11_purseOf 1 = .ok (.iload_n 1, 1) := by decide +kernel
theorem dX11_purseOf_2 : decode cX11_purseOf 2 = .ok (.invokevirtual 199, 3) := by decide +kernel
theorem dX11_purseOf_5 : decode cX11_purseOf 5 = .ok (.getfield 214, 3) := by decide +kernel
theorem dX11_purseOf_8 : decode cX11_purseOf 8 = .ok (.ireturn, 1) := by decide +kernel
theorem dX11_ageOf_0 : decode cX11_ageOf 0 = .ok (.aload_n 0, 1) := by decide +kernel
theorem dX11_ageOf_1 : decode cX11_ageOf 1 = .ok (.iload_n 1, 1) := by decide +kernel
theorem dX11_ageOf_2 : decode cX11_ageOf 2 = .ok (.invokevirtual 199, 3) := by decide +kernel
theorem dX11_ageOf_5 : decode cX11_ageOf 5 = .ok (.getfield 217, 3) := by decide +kernel
theorem dX11_ageOf_8 : decode cX11_ageOf 8 = .ok (.ireturn, 1) := by decide +kernel
theorem dX11_isPresent_0 : decode cX11_isPresent 0 = .ok (.aload_n 0, 1) := by decide +kernel
theorem dX11_isPresent_1 : decode cX11_isPresent 1 = .ok (.iload_n 1, 1) := by decide +kernel
theorem dX11_isPresent_2 : decode cX11_isPresent 2 = .ok (.invokevirtual 199, 3) := by decide +kernel
theorem dX11_isPresent_5 : decode cX11_isPresent 5 = .ok (.getfield 220, 3) := by decide +kernel
theorem dX11_isPresent_8 : decode cX11_isPresent 8 = .ok (.ireturn, 1) := by decide +kernel
theorem dX11_boardOf_0 : decode cX11_boardOf 0 = .ok (.aload_n 0, 1) := by decide +kernel
theorem dX11_boardOf_1 : decode cX11_boardOf 1 = .ok (.iload_n 1, 1) := by decide +kernel
theorem dX11_boardOf_2 : decode cX11_boardOf 2 = .ok (.invokevirtual 199, 3) := by decide +kernel
theorem dX11_boardOf_5 : decode cX11_boardOf 5 = .ok (.getfield 224, 3) := by decide +kernel
theorem dX11_boardOf_8 : decode cX11_boardOf 8 = .ok (.ireturn, 1) := by decide +kernel
theorem dX11_positionOf_0 : decode cX11_positionOf 0 = .ok (.aload_n 0, 1) := by decide +kernel
theorem dX11_positionOf_1 : decode cX11_positionOf 1 = .ok (.iload_n 1, 1) := by decide +kernel
theorem dX11_positionOf_2 : decode cX11_positionOf 2 = .ok (.invokevirtual 199, 3) := by decide +kernel
theorem dX11_positionOf_5 : decode cX11_positionOf 5 = .ok (.getfield 227, 3) := by decide +kernel
theorem dX11_positionOf_8 : decode cX11_positionOf 8 = .ok (.ireturn, 1) := by decide +kernel
theorem dX11_incomeOf_0 : decode cX11_incomeOf 0 = .ok (.aload_n 0, 1) := by decide +kernel
theorem dX11_incomeOf_1 : decode cX11_incomeOf 1 = .ok (.getfield 38, 3) := by decide +kernel
theorem dX11_incomeOf_4 : decode cX11_incomeOf 4 = .ok (.aload_n 0, 1) := by decide +kernel
theorem dX11_incomeOf_5 : decode cX11_incomeOf 5 = .ok (.iload_n 1, 1) := by decide +kernel
theorem dX11_incomeOf_6 : decode cX11_incomeOf 6 = .ok (.invokevirtual 199, 3) := by decide +kernel
theorem dX11_incomeOf_9 : decode cX11_incomeOf 9 = .ok (.invokevirtual 230, 3) := by decide +kernel
theorem dX11_incomeOf_12 : decode cX11_incomeOf 12 = .ok (.ireturn, 1) := by decide +kernel
theorem dX11_reasonAgainstSeat_0 : decode cX11_reasonAgainstSeat 0 = .ok (.aload_n 0, 1) := by decide +kernel
theorem dX11_reasonAgainstSeat_1 : decode cX11_reasonAgainstSeat 1 = .ok (.iload_n 1, 1) := by decide +kernel
theorem dX11_reasonAgainstSeat_2 : decode cX11_reasonAgainstSeat 2 = .ok (.invokevirtual 199, 3) := by decide +kernel
theorem dX11_reasonAgainstSeat_5 : decode cX11_reasonAgainstSeat 5 = .ok (.astore 4, 2) := by decide +kernel
theorem dX11_reasonAgainstSeat_7 : decode cX11_reasonAgainstSeat 7 = .ok (.aload_n 0, 1) := by decide +kernel
theorem dX11_reasonAgainstSeat_8 : decode cX11_reasonAgainstSeat 8 = .ok (.getfield 38, 3) := by decide +kernel
theorem dX11_reasonAgainstSeat_11 : decode cX11_reasonAgainstSeat 11 = .ok (.aload 4, 2) := by decide +kernel
theorem dX11_reasonAgainstSeat_13 : decode cX11_reasonAgainstSeat 13 = .ok (.aload_n 0, 1) := by decide +kernel
theorem dX11_reasonAgainstSeat_14 : decode cX11_reasonAgainstSeat 14 = .ok (.iload_n 2, 1) := by decide +kernel
theorem dX11_reasonAgainstSeat_15 : decode cX11_reasonAgainstSeat 15 = .ok (.iload_n 3, 1) := by decide +kernel
theorem dX11_reasonAgainstSeat_16 : decode cX11_reasonAgainstSeat 16 = .ok (.invokevirtual 166, 3) := by decide +kernel
theorem dX11_reasonAgainstSeat_19 : decode cX11_reasonAgainstSeat 19 = .ok (.iload_n 3, 1) := by decide +kernel
theorem dX11_reasonAgainstSeat_20 : decode cX11_reasonAgainstSeat 20 = .ok (.invokevirtual 237, 3) := by decide +kernel
theorem dX11_reasonAgainstSeat_23 : decode cX11_reasonAgainstSeat 23 = .ok (.ireturn, 1) := by decide +kernel
theorem dX11_reasonAgainstSale_0 : decode cX11_reasonAgainstSale 0 = .ok (.aload_n 0, 1) := by decide +kernel
theorem dX11_reasonAgainstSale_1 : decode cX11_reasonAgainstSale 1 = .ok (.iload_n 1, 1) := by decide +kernel
theorem dX11_reasonAgainstSale_2 : decode cX11_reasonAgainstSale 2 = .ok (.invokevirtual 199, 3) := by decide +kernel
theorem dX11_reasonAgainstSale_5 : decode cX11_reasonAgainstSale 5 = .ok (.astore 4, 2) := by decide +kernel
theorem dX11_reasonAgainstSale_7 : decode cX11_reasonAgainstSale 7 = .ok (.aload_n 0, 1) := by decide +kernel
theorem dX11_reasonAgainstSale_8 : decode cX11_reasonAgainstSale 8 = .ok (.iload_n 2, 1) := by decide +kernel
theorem dX11_reasonAgainstSale_9 : decode cX11_reasonAgainstSale 9 = .ok (.invokevirtual 199, 3) := by decide +kernel
theorem dX11_reasonAgainstSale_12 : decode cX11_reasonAgainstSale 12 = .ok (.astore 5, 2) := by decide +kernel
theorem dX11_reasonAgainstSale_14 : decode cX11_reasonAgainstSale 14 = .ok (.iload_n 1, 1) := by decide +kernel
theorem dX11_reasonAgainstSale_15 : decode cX11_reasonAgainstSale 15 = .ok (.iload_n 2, 1) := by decide +kernel
theorem dX11_reasonAgainstSale_16 : decode cX11_reasonAgainstSale 16 = .ok (.invokestatic 241, 3) := by decide +kernel
theorem dX11_reasonAgainstSale_19 : decode cX11_reasonAgainstSale 19 = .ok (.iload_n 3, 1) := by decide +kernel
theorem dX11_reasonAgainstSale_20 : decode cX11_reasonAgainstSale 20 = .ok (.iconst 1, 1) := by decide +kernel
theorem dX11_reasonAgainstSale_21 : decode cX11_reasonAgainstSale 21 = .ok (.bipush 50, 2) := by decide +kernel
theorem dX11_reasonAgainstSale_23 : decode cX11_reasonAgainstSale 23 = .ok (.invokestatic 91, 3) := by decide +kernel
theorem dX11_reasonAgainstSale_26 : decode cX11_reasonAgainstSale 26 = .ok (.aload_n 0, 1) := by decide +kernel
theorem dX11_reasonAgainstSale_27 : decode cX11_reasonAgainstSale 27 = .ok (.getfield 38, 3) := by decide +kernel
theorem dX11_reasonAgainstSale_30 : decode cX11_reasonAgainstSale 30 = .ok (.aload 4, 2) := by decide +kernel
theorem dX11_reasonAgainstSale_32 : decode cX11_reasonAgainstSale 32 = .ok (.aload 5, 2) := by decide +kernel
theorem dX11_reasonAgainstSale_34 : decode cX11_reasonAgainstSale 34 = .ok (.iload_n 3, 1) := by decide +kernel
theorem dX11_reasonAgainstSale_35 : decode cX11_reasonAgainstSale 35 = .ok (.invokevirtual 245, 3) := by decide +kernel
theorem dX11_reasonAgainstSale_38 : decode cX11_reasonAgainstSale 38 = .ok (.ireturn, 1) := by decide +kernel
theorem dX11_reasonAgainstSwap_0 : decode cX11_reasonAgainstSwap 0 = .ok (.aload_n 0, 1) := by decide +kernel
theorem dX11_reasonAgainstSwap_1 : decode cX11_reasonAgainstSwap 1 = .ok (.iload_n 1, 1) := by decide +kernel
theorem dX11_reasonAgainstSwap_2 : decode cX11_reasonAgainstSwap 2 = .ok (.invokevirtual 199, 3) := by decide +kernel
theorem dX11_reasonAgainstSwap_5 : decode cX11_reasonAgainstSwap 5 = .ok (.astore_n 3, 1) := by decide +kernel
theorem dX11_reasonAgainstSwap_6 : decode cX11_reasonAgainstSwap 6 = .ok (.aload_n 0, 1) := by decide +kernel
theorem dX11_reasonAgainstSwap_7 : decode cX11_reasonAgainstSwap 7 = .ok (.iload_n 2, 1) := by decide +kernel
theorem dX11_reasonAgainstSwap_8 : decode cX11_reasonAgainstSwap 8 = .ok (.invokevirtual 199, 3) := by decide +kernel
theorem dX11_reasonAgainstSwap_11 : decode cX11_reasonAgainstSwap 11 = .ok (.astore 4, 2) := by decide +kernel
theorem dX11_reasonAgainstSwap_13 : decode cX11_reasonAgainstSwap 13 = .ok (.iload_n 1, 1) := by decide +kernel
theorem dX11_reasonAgainstSwap_14 : decode cX11_reasonAgainstSwap 14 = .ok (.iload_n 2, 1) := by decide +kernel
theorem dX11_reasonAgainstSwap_15 : decode cX11_reasonAgainstSwap 15 = .ok (.invokestatic 241, 3) := by decide +kernel
theorem dX11_reasonAgainstSwap_18 : decode cX11_reasonAgainstSwap 18 = .ok (.aload_n 0, 1) := by decide +kernel
theorem dX11_reasonAgainstSwap_19 : decode cX11_reasonAgainstSwap 19 = .ok (.getfield 38, 3) := by decide +kernel
theorem dX11_reasonAgainstSwap_22 : decode cX11_reasonAgainstSwap 22 = .ok (.aload_n 3, 1) := by decide +kernel
theorem dX11_reasonAgainstSwap_23 : decode cX11_reasonAgainstSwap 23 = .ok (.aload 4, 2) := by decide +kernel
theorem dX11_reasonAgainstSwap_25 : decode cX11_reasonAgainstSwap 25 = .ok (.invokevirtual 249, 3) := by decide +kernel
theorem dX11_reasonAgainstSwap_28 : decode cX11_reasonAgainstSwap 28 = .ok (.ireturn, 1) := by decide +kernel
theorem dX11_seatsSold_0 : decode cX11_seatsSold 0 = .ok (.aload_n 0, 1) := by decide +kernel
theorem dX11_seatsSold_1 : decode cX11_seatsSold 1 = .ok (.getfield 38, 3) := by decide +kernel
theorem dX11_seatsSold_4 : decode cX11_seatsSold 4 = .ok (.getfield 264, 3) := by decide +kernel
theorem dX11_seatsSold_7 : decode cX11_seatsSold 7 = .ok (.ireturn, 1) := by decide +kernel
theorem dX11_weightSold_0 : decode cX11_weightSold 0 = .ok (.aload_n 0, 1) := by decide +kernel
theorem dX11_weightSold_1 : decode cX11_weightSold 1 = .ok (.getfield 38, 3) := by decide +kernel
theorem dX11_weightSold_4 : decode cX11_weightSold 4 = .ok (.getfield 267, 3) := by decide +kernel
theorem dX11_weightSold_7 : decode cX11_weightSold 7 = .ok (.ireturn, 1) := by decide +kernel
theorem dX11_fallCount_0 : decode cX11_fallCount 0 = .ok (.aload_n 0, 1) := by decide +kernel
theorem dX11_fallCount_1 : decode cX11_fallCount 1 = .ok (.getfield 38, 3) := by decide +kernel
theorem dX11_fallCount_4 : decode cX11_fallCount 4 = .ok (.getfield 270, 3) := by decide +kernel
theorem dX11_fallCount_7 : decode cX11_fallCount 7 = .ok (.ireturn, 1) := by decide +kernel
theorem dX11_contradictions_0 : decode cX11_contradictions 0 = .ok (.aload_n 0, 1) := by decide +kernel
theorem dX11_contradictions_1 : decode cX11_contradictions 1 = .ok (.getfield 38, 3) := by decide +kernel
theorem dX11_contradictions_4 : decode cX11_contradictions 4 = .ok (.invokevirtual 286, 3) := by decide +kernel
theorem dX11_contradictions_7 : decode cX11_contradictions 7 = .ok (.ireturn, 1) := by decide +kernel
theorem dX11_buySeat_0 : decode cX11_buySeat 0 = .ok (.aload_n 0, 1) := by decide +kernel
theorem dX11_buySeat_1 : decode cX11_buySeat 1 = .ok (.iload_n 1, 1) := by decide +kernel
theorem dX11_buySeat_2 : decode cX11_buySeat 2 = .ok (.invokevirtual 199, 3) := by decide +kernel
theorem dX11_buySeat_5 : decode cX11_buySeat 5 = .ok (.astore 4, 2) := by decide +kernel
theorem dX11_buySeat_7 : decode cX11_buySeat 7 = .ok (.aload_n 0, 1) := by decide +kernel
theorem dX11_buySeat_8 : decode cX11_buySeat 8 = .ok (.iload_n 2, 1) := by decide +kernel
theorem dX11_buySeat_9 : decode cX11_buySeat 9 = .ok (.iload_n 3, 1) := by decide +kernel
theorem dX11_buySeat_10 : decode cX11_buySeat 10 = .ok (.invokevirtual 166, 3) := by decide +kernel
theorem dX11_buySeat_13 : decode cX11_buySeat 13 = .ok (.astore 5, 2) := by decide +kernel
theorem dX11_buySeat_15 : decode cX11_buySeat 15 = .ok (.aload_n 0, 1) := by decide +kernel
theorem dX11_buySeat_16 : decode cX11_buySeat 16 = .ok (.getfield 38, 3) := by decide +kernel
theorem dX11_buySeat_19 : decode cX11_buySeat 19 = .ok (.aload 4, 2) := by decide +kernel
theorem dX11_buySeat_21 : decode cX11_buySeat 21 = .ok (.aload 5, 2) := by decide +kernel
theorem dX11_buySeat_23 : decode cX11_buySeat 23 = .ok (.iload_n 3, 1) := by decide +kernel
theorem dX11_buySeat_24 : decode cX11_buySeat 24 = .ok (.invokevirtual 237, 3) := by decide +kernel
theorem dX11_buySeat_27 : decode cX11_buySeat 27 = .ok (.invokestatic 326, 3) := by decide +kernel
theorem dX11_buySeat_30 : decode cX11_buySeat 30 = .ok (.aload_n 0, 1) := by decide +kernel
theorem dX11_buySeat_31 : decode cX11_buySeat 31 = .ok (.getfield 48, 3) := by decide +kernel
theorem dX11_buySeat_34 : decode cX11_buySeat 34 = .ok (.aload_n 0, 1) := by decide +kernel
theorem dX11_buySeat_35 : decode cX11_buySeat 35 = .ok (.getfield 38, 3) := by decide +kernel
theorem dX11_buySeat_38 : decode cX11_buySeat 38 = .ok (.invokevirtual 109, 3) := by decide +kernel
theorem dX11_buySeat_41 : decode cX11_buySeat 41 = .ok (.aload_n 0, 1) := by decide +kernel
theorem dX11_buySeat_42 : decode cX11_buySeat 42 = .ok (.getfield 38, 3) := by decide +kernel
theorem dX11_buySeat_45 : decode cX11_buySeat 45 = .ok (.aload 4, 2) := by decide +kernel
theorem dX11_buySeat_47 : decode cX11_buySeat 47 = .ok (.aload 5, 2) := by decide +kernel
theorem dX11_buySeat_49 : decode cX11_buySeat 49 = .ok (.iload_n 3, 1) := by decide +kernel
theorem dX11_buySeat_50 : decode cX11_buySeat 50 = .ok (.invokevirtual 329, 3) := by decide +kernel
theorem dX11_buySeat_53 : decode cX11_buySeat 53 = .ok (.ireturn, 1) := by decide +kernel
theorem dX11_sellWeight_0 : decode cX11_sellWeight 0 = .ok (.aload_n 0, 1) := by decide +kernel
theorem dX11_sellWeight_1 : decode cX11_sellWeight 1 = .ok (.iload_n 1, 1) := by decide +kernel
theorem dX11_sellWeight_2 : decode cX11_sellWeight 2 = .ok (.invokevirtual 199, 3) := by decide +kernel
theorem dX11_sellWeight_5 : decode cX11_sellWeight 5 = .ok (.astore 4, 2) := by decide +kernel
theorem dX11_sellWeight_7 : decode cX11_sellWeight 7 = .ok (.aload_n 0, 1) := by decide +kernel
theorem dX11_sellWeight_8 : decode cX11_sellWeight 8 = .ok (.iload_n 2, 1) := by decide +kernel
theorem dX11_sellWeight_9 : decode cX11_sellWeight 9 = .ok (.invokevirtual 199, 3) := by decide +kernel
theorem dX11_sellWeight_12 : decode cX11_sellWeight 12 = .ok (.astore 5, 2) := by decide +kernel
theorem dX11_sellWeight_14 : decode cX11_sellWeight 14 = .ok (.iload_n 1, 1) := by decide +kernel
theorem dX11_sellWeight_15 : decode cX11_sellWeight 15 = .ok (.iload_n 2, 1) := by decide +kernel
theorem dX11_sellWeight_16 : decode cX11_sellWeight 16 = .ok (.invokestatic 241, 3) := by decide +kernel
theorem dX11_sellWeight_19 : decode cX11_sellWeight 19 = .ok (.iload_n 3, 1) := by decide +kernel
theorem dX11_sellWeight_20 : decode cX11_sellWeight 20 = .ok (.iconst 1, 1) := by decide +kernel
theorem dX11_sellWeight_21 : decode cX11_sellWeight 21 = .ok (.bipush 50, 2) := by decide +kernel
theorem dX11_sellWeight_23 : decode cX11_sellWeight 23 = .ok (.invokestatic 91, 3) := by decide +kernel
theorem dX11_sellWeight_26 : decode cX11_sellWeight 26 = .ok (.aload_n 0, 1) := by decide +kernel
theorem dX11_sellWeight_27 : decode cX11_sellWeight 27 = .ok (.getfield 38, 3) := by decide +kernel
theorem dX11_sellWeight_30 : decode cX11_sellWeight 30 = .ok (.aload 4, 2) := by decide +kernel
theorem dX11_sellWeight_32 : decode cX11_sellWeight 32 = .ok (.aload 5, 2) := by decide +kernel
theorem dX11_sellWeight_34 : decode cX11_sellWeight 34 = .ok (.iload_n 3, 1) := by decide +kernel
theorem dX11_sellWeight_35 : decode cX11_sellWeight 35 = .ok (.invokevirtual 245, 3) := by decide +kernel
theorem dX11_sellWeight_38 : decode cX11_sellWeight 38 = .ok (.invokestatic 326, 3) := by decide +kernel
theorem dX11_sellWeight_41 : decode cX11_sellWeight 41 = .ok (.aload_n 0, 1) := by decide +kernel
theorem dX11_sellWeight_42 : decode cX11_sellWeight 42 = .ok (.getfield 48, 3) := by decide +kernel
theorem dX11_sellWeight_45 : decode cX11_sellWeight 45 = .ok (.aload_n 0, 1) := by decide +kernel
theorem dX11_sellWeight_46 : decode cX11_sellWeight 46 = .ok (.getfield 38, 3) := by decide +kernel
theorem dX11_sellWeight_49 : decode cX11_sellWeight 49 = .ok (.invokevirtual 109, 3) := by decide +kernel
theorem dX11_sellWeight_52 : decode cX11_sellWeight 52 = .ok (.aload_n 0, 1) := by decide +kernel
theorem dX11_sellWeight_53 : decode cX11_sellWeight 53 = .ok (.getfield 38, 3) := by decide +kernel
theorem dX11_sellWeight_56 : decode cX11_sellWeight 56 = .ok (.aload 4, 2) := by decide +kernel
theorem dX11_sellWeight_58 : decode cX11_sellWeight 58 = .ok (.aload 5, 2) := by decide +kernel
theorem dX11_sellWeight_60 : decode cX11_sellWeight 60 = .ok (.iload_n 3, 1) := by decide +kernel
theorem dX11_sellWeight_61 : decode cX11_sellWeight 61 = .ok (.invokevirtual 335, 3) := by decide +kernel
theorem dX11_sellWeight_64 : decode cX11_sellWeight 64 = .ok (.ireturn, 1) := by decide +kernel
theorem dX11_swapSeats_0 : decode cX11_swapSeats 0 = .ok (.aload_n 0, 1) := by decide +kernel
theorem dX11_swapSeats_1 : decode cX11_swapSeats 1 = .ok (.iload_n 1, 1) := by decide +kernel
theorem dX11_swapSeats_2 : decode cX11_swapSeats 2 = .ok (.invokevirtual 199, 3) := by decide +kernel
theorem dX11_swapSeats_5 : decode cX11_swapSeats 5 = .ok (.astore_n 3, 1) := by decide +kernel
theorem dX11_swapSeats_6 : decode cX11_swapSeats 6 = .ok (.aload_n 0, 1) := by decide +kernel
theorem dX11_swapSeats_7 : decode cX11_swapSeats 7 = .ok (.iload_n 2, 1) := by decide +kernel
theorem dX11_swapSeats_8 : decode cX11_swapSeats 8 = .ok (.invokevirtual 199, 3) := by decide +kernel
theorem dX11_swapSeats_11 : decode cX11_swapSeats 11 = .ok (.astore 4, 2) := by decide +kernel
theorem dX11_swapSeats_13 : decode cX11_swapSeats 13 = .ok (.iload_n 1, 1) := by decide +kernel
theorem dX11_swapSeats_14 : decode cX11_swapSeats 14 = .ok (.iload_n 2, 1) := by decide +kernel
theorem dX11_swapSeats_15 : decode cX11_swapSeats 15 = .ok (.invokestatic 241, 3) := by decide +kernel
theorem dX11_swapSeats_18 : decode cX11_swapSeats 18 = .ok (.aload_n 0, 1) := by decide +kernel
theorem dX11_swapSeats_19 : decode cX11_swapSeats 19 = .ok (.getfield 38, 3) := by decide +kernel
theorem dX11_swapSeats_22 : decode cX11_swapSeats 22 = .ok (.aload_n 3, 1) := by decide +kernel
theorem dX11_swapSeats_23 : decode cX11_swapSeats 23 = .ok (.aload 4, 2) := by decide +kernel
theorem dX11_swapSeats_25 : decode cX11_swapSeats 25 = .ok (.invokevirtual 249, 3) := by decide +kernel
theorem dX11_swapSeats_28 : decode cX11_swapSeats 28 = .ok (.invokestatic 326, 3) := by decide +kernel
theorem dX11_swapSeats_31 : decode cX11_swapSeats 31 = .ok (.aload_n 0, 1) := by decide +kernel
theorem dX11_swapSeats_32 : decode cX11_swapSeats 32 = .ok (.getfield 48, 3) := by decide +kernel
theorem dX11_swapSeats_35 : decode cX11_swapSeats 35 = .ok (.aload_n 0, 1) := by decide +kernel
theorem dX11_swapSeats_36 : decode cX11_swapSeats 36 = .ok (.getfield 38, 3) := by decide +kernel
theorem dX11_swapSeats_39 : decode cX11_swapSeats 39 = .ok (.invokevirtual 109, 3) := by decide +kernel
theorem dX11_swapSeats_42 : decode cX11_swapSeats 42 = .ok (.aload_n 0, 1) := by decide +kernel
theorem dX11_swapSeats_43 : decode cX11_swapSeats 43 = .ok (.getfield 38, 3) := by decide +kernel
theorem dX11_swapSeats_46 : decode cX11_swapSeats 46 = .ok (.aload_n 3, 1) := by decide +kernel
theorem dX11_swapSeats_47 : decode cX11_swapSeats 47 = .ok (.aload 4, 2) := by decide +kernel
theorem dX11_swapSeats_49 : decode cX11_swapSeats 49 = .ok (.invokevirtual 338, 3) := by decide +kernel
theorem dX11_swapSeats_52 : decode cX11_swapSeats 52 = .ok (.ireturn, 1) := by decide +kernel
theorem dX11_setWage_0 : decode cX11_setWage 0 = .ok (.iload_n 1, 1) := by decide +kernel
theorem dX11_setWage_1 : decode cX11_setWage 1 = .ok (.iconst 0, 1) := by decide +kernel
theorem dX11_setWage_2 : decode cX11_setWage 2 = .ok (.bipush 20, 2) := by decide +kernel
theorem dX11_setWage_4 : decode cX11_setWage 4 = .ok (.invokestatic 91, 3) := by decide +kernel
theorem dX11_setWage_7 : decode cX11_setWage 7 = .ok (.aload_n 0, 1) := by decide +kernel
theorem dX11_setWage_8 : decode cX11_setWage 8 = .ok (.getfield 48, 3) := by decide +kernel
theorem dX11_setWage_11 : decode cX11_setWage 11 = .ok (.aload_n 0, 1) := by decide +kernel
theorem dX11_setWage_12 : decode cX11_setWage 12 = .ok (.getfield 38, 3) := by decide +kernel
theorem dX11_setWage_15 : decode cX11_setWage 15 = .ok (.invokevirtual 109, 3) := by decide +kernel
theorem dX11_setWage_18 : decode cX11_setWage 18 = .ok (.aload_n 0, 1) := by decide +kernel
theorem dX11_setWage_19 : decode cX11_setWage 19 = .ok (.getfield 38, 3) := by decide +kernel
theorem dX11_setWage_22 : decode cX11_setWage 22 = .ok (.getfield 135, 3) := by decide +kernel
theorem dX11_setWage_25 : decode cX11_setWage 25 = .ok (.istore_n 2, 1) := by decide +kernel
theorem dX11_setWage_26 : decode cX11_setWage 26 = .ok (.aload_n 0, 1) := by decide +kernel
theorem dX11_setWage_27 : decode cX11_setWage 27 = .ok (.getfield 38, 3) := by decide +kernel
theorem dX11_setWage_30 : decode cX11_setWage 30 = .ok (.iload_n 1, 1) := by decide +kernel
theorem dX11_setWage_31 : decode cX11_setWage 31 = .ok (.putfield 135, 3) := by decide +kernel
theorem dX11_setWage_34 : decode cX11_setWage 34 = .ok (.iload_n 2, 1) := by decide +kernel
theorem dX11_setWage_35 : decode cX11_setWage 35 = .ok (.ireturn, 1) := by decide +kernel
theorem dX11_advance_0 : decode cX11_advance 0 = .ok (.iload_n 1, 1) := by decide +kernel
theorem dX11_advance_1 : decode cX11_advance 1 = .ok (.iconst 1, 1) := by decide +kernel
theorem dX11_advance_2 : decode cX11_advance 2 = .ok (.bipush 30, 2) := by decide +kernel
theorem dX11_advance_4 : decode cX11_advance 4 = .ok (.invokestatic 91, 3) := by decide +kernel
theorem dX11_advance_7 : decode cX11_advance 7 = .ok (.aload_n 0, 1) := by decide +kernel
theorem dX11_advance_8 : decode cX11_advance 8 = .ok (.getfield 38, 3) := by decide +kernel
theorem dX11_advance_11 : decode cX11_advance 11 = .ok (.iload_n 1, 1) := by decide +kernel
theorem dX11_advance_12 : decode cX11_advance 12 = .ok (.invokevirtual 341, 3) := by decide +kernel
theorem dX11_advance_15 : decode cX11_advance 15 = .ok (.ifCond .ne 14, 3) := by decide +kernel
theorem dX11_advance_18 : decode cX11_advance 18 = .ok (.new 81, 3) := by decide +kernel
theorem dX11_advance_21 : decode cX11_advance 21 = .ok (.dup, 1) := by decide +kernel
theorem dX11_advance_22 : decode cX11_advance 22 = .ok (.ldc_w 345, 3) := by decide +kernel
theorem dX11_advance_25 : decode cX11_advance 25 = .ok (.invokespecial 85, 3) := by decide +kernel
theorem dX11_advance_28 : decode cX11_advance 28 = .ok (.athrow, 1) := by decide +kernel
theorem dX11_advance_29 : decode cX11_advance 29 = .ok (.aload_n 0, 1) := by decide +kernel
theorem dX11_advance_30 : decode cX11_advance 30 = .ok (.getfield 48, 3) := by decide +kernel
theorem dX11_advance_33 : decode cX11_advance 33 = .ok (.aload_n 0, 1) := by decide +kernel
theorem dX11_advance_34 : decode cX11_advance 34 = .ok (.getfield 38, 3) := by decide +kernel
theorem dX11_advance_37 : decode cX11_advance 37 = .ok (.invokevirtual 109, 3) := by decide +kernel
theorem dX11_advance_40 : decode cX11_advance 40 = .ok (.aload_n 0, 1) := by decide +kernel
theorem dX11_advance_41 : decode cX11_advance 41 = .ok (.getfield 38, 3) := by decide +kernel
theorem dX11_advance_44 : decode cX11_advance 44 = .ok (.iload_n 1, 1) := by decide +kernel
theorem dX11_advance_45 : decode cX11_advance 45 = .ok (.invokevirtual 307, 3) := by decide +kernel
theorem dX11_advance_48 : decode cX11_advance 48 = .ok (.ireturn, 1) := by decide +kernel
theorem dX11_beginMarketOfText_0 : decode cX11_beginMarketOfText 0 = .ok (.aload_n 0, 1) := by decide +kernel
theorem dX11_beginMarketOfText_1 : decode cX11_beginMarketOfText 1 = .ok (.getfield 24, 3) := by decide +kernel
theorem dX11_beginMarketOfText_4 : decode cX11_beginMarketOfText 4 = .ok (.invokevirtual 98, 3) := by decide +kernel
theorem dX11_beginMarketOfText_7 : decode cX11_beginMarketOfText 7 = .ok (.aload_n 0, 1) := by decide +kernel
theorem dX11_beginMarketOfText_8 : decode cX11_beginMarketOfText 8 = .ok (.getfield 24, 3) := by decide +kernel
theorem dX11_beginMarketOfText_11 : decode cX11_beginMarketOfText 11 = .ok (.aload_n 0, 1) := by decide +kernel
theorem dX11_beginMarketOfText_12 : decode cX11_beginMarketOfText 12 = .ok (.getfield 42, 3) := by decide +kernel
theorem dX11_beginMarketOfText_15 : decode cX11_beginMarketOfText 15 = .ok (.invokestatic 374, 3) := by decide +kernel
theorem dX11_beginMarketOfText_18 : decode cX11_beginMarketOfText 18 = .ok (.aload_n 0, 1) := by decide +kernel
theorem dX11_beginMarketOfText_19 : decode cX11_beginMarketOfText 19 = .ok (.getfield 10, 3) := by decide +kernel
theorem dX11_beginMarketOfText_22 : decode cX11_beginMarketOfText 22 = .ok (.iconst 0, 1) := by decide +kernel
theorem dX11_beginMarketOfText_23 : decode cX11_beginMarketOfText 23 = .ok (.putfield 77, 3) := by decide +kernel
theorem dX11_beginMarketOfText_26 : decode cX11_beginMarketOfText 26 = .ok (.aload_n 0, 1) := by decide +kernel
theorem dX11_beginMarketOfText_27 : decode cX11_beginMarketOfText 27 = .ok (.getfield 24, 3) := by decide +kernel
theorem dX11_beginMarketOfText_30 : decode cX11_beginMarketOfText 30 = .ok (.invokevirtual 105, 3) := by decide +kernel
theorem dX11_beginMarketOfText_33 : decode cX11_beginMarketOfText 33 = .ok (.ifCond .eq 4, 3) := by decide +kernel
theorem dX11_beginMarketOfText_36 : decode cX11_beginMarketOfText 36 = .ok (.return_, 1) := by decide +kernel
theorem dX11_beginMarketOfText_37 : decode cX11_beginMarketOfText 37 = .ok (.aload_n 0, 1) := by decide +kernel
theorem dX11_beginMarketOfText_38 : decode cX11_beginMarketOfText 38 = .ok (.getfield 38, 3) := by decide +kernel
theorem dX11_beginMarketOfText_41 : decode cX11_beginMarketOfText 41 = .ok (.aload_n 0, 1) := by decide +kernel
theorem dX11_beginMarketOfText_42 : decode cX11_beginMarketOfText 42 = .ok (.getfield 42, 3) := by decide +kernel
theorem dX11_beginMarketOfText_45 : decode cX11_beginMarketOfText 45 = .ok (.invokevirtual 304, 3) := by decide +kernel
theorem dX11_beginMarketOfText_48 : decode cX11_beginMarketOfText 48 = .ok (.aload_n 0, 1) := by decide +kernel
theorem dX11_beginMarketOfText_49 : decode cX11_beginMarketOfText 49 = .ok (.getfield 48, 3) := by decide +kernel
theorem dX11_beginMarketOfText_52 : decode cX11_beginMarketOfText 52 = .ok (.invokevirtual 371, 3) := by decide +kernel
theorem dX11_beginMarketOfText_55 : decode cX11_beginMarketOfText 55 = .ok (.iconst 0, 1) := by decide +kernel
theorem dX11_beginMarketOfText_56 : decode cX11_beginMarketOfText 56 = .ok (.istore_n 1, 1) := by decide +kernel
theorem dX11_beginMarketOfText_57 : decode cX11_beginMarketOfText 57 = .ok (.iload_n 1, 1) := by decide +kernel
theorem dX11_beginMarketOfText_58 : decode cX11_beginMarketOfText 58 = .ok (.aload_n 0, 1) := by decide +kernel
theorem dX11_beginMarketOfText_59 : decode cX11_beginMarketOfText 59 = .ok (.getfield 56, 3) := by decide +kernel
theorem dX11_beginMarketOfText_62 : decode cX11_beginMarketOfText 62 = .ok (.arraylength, 1) := by decide +kernel
theorem dX11_beginMarketOfText_63 : decode cX11_beginMarketOfText 63 = .ok (.if_icmp .ge 16, 3) := by decide +kernel
theorem dX11_beginMarketOfText_66 : decode cX11_beginMarketOfText 66 = .ok (.aload_n 0, 1) := by decide +kernel
theorem dX11_beginMarketOfText_67 : decode cX11_beginMarketOfText 67 = .ok (.getfield 56, 3) := by decide +kernel
theorem dX11_beginMarketOfText_70 : decode cX11_beginMarketOfText 70 = .ok (.iload_n 1, 1) := by decide +kernel
theorem dX11_beginMarketOfText_71 : decode cX11_beginMarketOfText 71 = .ok (.iconst 0, 1) := by decide +kernel
theorem dX11_beginMarketOfText_72 : decode cX11_beginMarketOfText 72 = .ok (.bastore, 1) := by decide +kernel
theorem dX11_beginMarketOfText_73 : decode cX11_beginMarketOfText 73 = .ok (.iinc 1 1, 3) := by decide +kernel
theorem dX11_beginMarketOfText_76 : decode cX11_beginMarketOfText 76 = .ok (.goto (-19), 3) := by decide +kernel
theorem dX11_beginMarketOfText_79 : decode cX11_beginMarketOfText 79 = .ok (.return_, 1) := by decide +kernel
theorem dX11_existingBoard_0 : decode cX11_existingBoard 0 = .ok (.aload_n 0, 1) := by decide +kernel
theorem dX11_existingBoard_1 : decode cX11_existingBoard 1 = .ok (.getfield 38, 3) := by decide +kernel
theorem dX11_existingBoard_4 : decode cX11_existingBoard 4 = .ok (.iload_n 1, 1) := by decide +kernel
theorem dX11_existingBoard_5 : decode cX11_existingBoard 5 = .ok (.invokevirtual 383, 3) := by decide +kernel
theorem dX11_existingBoard_8 : decode cX11_existingBoard 8 = .ok (.astore_n 2, 1) := by decide +kernel
theorem dX11_existingBoard_9 : decode cX11_existingBoard 9 = .ok (.aload_n 2, 1) := by decide +kernel
theorem dX11_existingBoard_10 : decode cX11_existingBoard 10 = .ok (.ifnonnull 14, 3) := by decide +kernel
theorem dX11_existingBoard_13 : decode cX11_existingBoard 13 = .ok (.new 386, 3) := by decide +kernel
theorem dX11_existingBoard_16 : decode cX11_existingBoard 16 = .ok (.dup, 1) := by decide +kernel
theorem dX11_existingBoard_17 : decode cX11_existingBoard 17 = .ok (.ldc_w 388, 3) := by decide +kernel
theorem dX11_existingBoard_20 : decode cX11_existingBoard 20 = .ok (.invokespecial 390, 3) := by decide +kernel
theorem dX11_existingBoard_23 : decode cX11_existingBoard 23 = .ok (.athrow, 1) := by decide +kernel
theorem dX11_existingBoard_24 : decode cX11_existingBoard 24 = .ok (.aload_n 2, 1) := by decide +kernel
theorem dX11_existingBoard_25 : decode cX11_existingBoard 25 = .ok (.areturn, 1) := by decide +kernel
theorem dX11_boardWithSeat_0 : decode cX11_boardWithSeat 0 = .ok (.aload_n 0, 1) := by decide +kernel
theorem dX11_boardWithSeat_1 : decode cX11_boardWithSeat 1 = .ok (.iload_n 1, 1) := by decide +kernel
theorem dX11_boardWithSeat_2 : decode cX11_boardWithSeat 2 = .ok (.invokevirtual 147, 3) := by decide +kernel
theorem dX11_boardWithSeat_5 : decode cX11_boardWithSeat 5 = .ok (.astore_n 3, 1) := by decide +kernel
theorem dX11_boardWithSeat_6 : decode cX11_boardWithSeat 6 = .ok (.aload_n 3, 1) := by decide +kernel
theorem dX11_boardWithSeat_7 : decode cX11_boardWithSeat 7 = .ok (.iload_n 2, 1) := by decide +kernel
theorem dX11_boardWithSeat_8 : decode cX11_boardWithSeat 8 = .ok (.invokevirtual 391, 3) := by decide +kernel
theorem dX11_boardWithSeat_11 : decode cX11_boardWithSeat 11 = .ok (.ifCond .ne 14, 3) := by decide +kernel
theorem dX11_boardWithSeat_14 : decode cX11_boardWithSeat 14 = .ok (.new 386, 3) := by decide +kernel
theorem dX11_boardWithSeat_17 : decode cX11_boardWithSeat 17 = .ok (.dup, 1) := by decide +kernel
theorem dX11_boardWithSeat_18 : decode cX11_boardWithSeat 18 = .ok (.ldc_w 394, 3) := by decide +kernel
theorem dX11_boardWithSeat_21 : decode cX11_boardWithSeat 21 = .ok (.invokespecial 390, 3) := by decide +kernel
theorem dX11_boardWithSeat_24 : decode cX11_boardWithSeat 24 = .ok (.athrow, 1) := by decide +kernel
theorem dX11_boardWithSeat_25 : decode cX11_boardWithSeat 25 = .ok (.aload_n 3, 1) := by decide +kernel
theorem dX11_boardWithSeat_26 : decode cX11_boardWithSeat 26 = .ok (.areturn, 1) := by decide +kernel
theorem dX11_existingTrader_0 : decode cX11_existingTrader 0 = .ok (.aload_n 0, 1) := by decide +kernel
theorem dX11_existingTrader_1 : decode cX11_existingTrader 1 = .ok (.getfield 38, 3) := by decide +kernel
theorem dX11_existingTrader_4 : decode cX11_existingTrader 4 = .ok (.iload_n 1, 1) := by decide +kernel
theorem dX11_existingTrader_5 : decode cX11_existingTrader 5 = .ok (.invokevirtual 310, 3) := by decide +kernel
theorem dX11_existingTrader_8 : decode cX11_existingTrader 8 = .ok (.astore_n 2, 1) := by decide +kernel
theorem dX11_existingTrader_9 : decode cX11_existingTrader 9 = .ok (.aload_n 2, 1) := by decide +kernel
theorem dX11_existingTrader_10 : decode cX11_existingTrader 10 = .ok (.ifnonnull 14, 3) := by decide +kernel
theorem dX11_existingTrader_13 : decode cX11_existingTrader 13 = .ok (.new 386, 3) := by decide +kernel
theorem dX11_existingTrader_16 : decode cX11_existingTrader 16 = .ok (.dup, 1) := by decide +kernel
theorem dX11_existingTrader_17 : decode cX11_existingTrader 17 = .ok (.ldc_w 396, 3) := by decide +kernel
theorem dX11_existingTrader_20 : decode cX11_existingTrader 20 = .ok (.invokespecial 390, 3) := by decide +kernel
theorem dX11_existingTrader_23 : decode cX11_existingTrader 23 = .ok (.athrow, 1) := by decide +kernel
theorem dX11_existingTrader_24 : decode cX11_existingTrader 24 = .ok (.aload_n 2, 1) := by decide +kernel
theorem dX11_existingTrader_25 : decode cX11_existingTrader 25 = .ok (.areturn, 1) := by decide +kernel
theorem dX11_requireRange_0 : decode cX11_requireRange 0 = .ok (.iload_n 0, 1) := by decide +kernel
theorem dX11_requireRange_1 : decode cX11_requireRange 1 = .ok (.iload_n 1, 1) := by decide +kernel
theorem dX11_requireRange_2 : decode cX11_requireRange 2 = .ok (.if_icmp .lt 8, 3) := by decide +kernel
theorem dX11_requireRange_5 : decode cX11_requireRange 5 = .ok (.iload_n 0, 1) := by decide +kernel
theorem dX11_requireRange_6 : decode cX11_requireRange 6 = .ok (.iload_n 2, 1) := by decide +kernel
theorem dX11_requireRange_7 : decode cX11_requireRange 7 = .ok (.if_icmp .le 14, 3) := by decide +kernel
theorem dX11_requireRange_10 : decode cX11_requireRange 10 = .ok (.new 400, 3) := by decide +kernel
theorem dX11_requireRange_13 : decode cX11_requireRange 13 = .ok (.dup, 1) := by decide +kernel
theorem dX11_requireRange_14 : decode cX11_requireRange 14 = .ok (.ldc_w 402, 3) := by decide +kernel
theorem dX11_requireRange_17 : decode cX11_requireRange 17 = .ok (.invokespecial 404, 3) := by decide +kernel
theorem dX11_requireRange_20 : decode cX11_requireRange 20 = .ok (.athrow, 1) := by decide +kernel
theorem dX11_requireRange_21 : decode cX11_requireRange 21 = .ok (.return_, 1) := by decide +kernel
theorem dX11_requireDifferent_0 : decode cX11_requireDifferent 0 = .ok (.iload_n 0, 1) := by decide +kernel
theorem dX11_requireDifferent_1 : decode cX11_requireDifferent 1 = .ok (.iload_n 1, 1) := by decide +kernel
theorem dX11_requireDifferent_2 : decode cX11_requireDifferent 2 = .ok (.if_icmp .ne 14, 3) := by decide +kernel
theorem dX11_requireDifferent_5 : decode cX11_requireDifferent 5 = .ok (.new 400, 3) := by decide +kernel
theorem dX11_requireDifferent_8 : decode cX11_requireDifferent 8 = .ok (.dup, 1) := by decide +kernel
theorem dX11_requireDifferent_9 : decode cX11_requireDifferent 9 = .ok (.ldc_w 405, 3) := by decide +kernel
theorem dX11_requireDifferent_12 : decode cX11_requireDifferent 12 = .ok (.invokespecial 404, 3) := by decide +kernel
theorem dX11_requireDifferent_15 : decode cX11_requireDifferent 15 = .ok (.athrow, 1) := by decide +kernel
theorem dX11_requireDifferent_16 : decode cX11_requireDifferent 16 = .ok (.return_, 1) := by decide +kernel
theorem dX11_requirePossible_0 : decode cX11_requirePossible 0 = .ok (.iload_n 0, 1) := by decide +kernel
theorem dX11_requirePossible_1 : decode cX11_requirePossible 1 = .ok (.ifCond .eq 14, 3) := by decide +kernel
theorem dX11_requirePossible_4 : decode cX11_requirePossible 4 = .ok (.new 81, 3) := by decide +kernel
theorem dX11_requirePossible_7 : decode cX11_requirePossible 7 = .ok (.dup, 1) := by decide +kernel
theorem dX11_requirePossible_8 : decode cX11_requirePossible 8 = .ok (.ldc_w 412, 3) := by decide +kernel
theorem dX11_requirePossible_11 : decode cX11_requirePossible 11 = .ok (.invokespecial 85, 3) := by decide +kernel
theorem dX11_requirePossible_14 : decode cX11_requirePossible 14 = .ok (.athrow, 1) := by decide +kernel
theorem dX11_requirePossible_15 : decode cX11_requirePossible 15 = .ok (.return_, 1) := by decide +kernel
theorem dX11_bytesIn_0 : decode cX11_bytesIn 0 = .ok (.iconst 0, 1) := by decide +kernel
theorem dX11_bytesIn_1 : decode cX11_bytesIn 1 = .ok (.istore_n 1, 1) := by decide +kernel
theorem dX11_bytesIn_2 : decode cX11_bytesIn 2 = .ok (.bipush 24, 2) := by decide +kernel
theorem dX11_bytesIn_4 : decode cX11_bytesIn 4 = .ok (.istore_n 2, 1) := by decide +kernel
theorem dX11_bytesIn_5 : decode cX11_bytesIn 5 = .ok (.iload_n 2, 1) := by decide +kernel
theorem dX11_bytesIn_6 : decode cX11_bytesIn 6 = .ok (.ifCond .lt 22, 3) := by decide +kernel
theorem dX11_bytesIn_9 : decode cX11_bytesIn 9 = .ok (.iload_n 0, 1) := by decide +kernel
theorem dX11_bytesIn_10 : decode cX11_bytesIn 10 = .ok (.iload_n 2, 1) := by decide +kernel
theorem dX11_bytesIn_11 : decode cX11_bytesIn 11 = .ok (.iushr, 1) := by decide +kernel
theorem dX11_bytesIn_12 : decode cX11_bytesIn 12 = .ok (.sipush 255, 3) := by decide +kernel
theorem dX11_bytesIn_15 : decode cX11_bytesIn 15 = .ok (.iand, 1) := by decide +kernel
theorem dX11_bytesIn_16 : decode cX11_bytesIn 16 = .ok (.ifCond .eq 6, 3) := by decide +kernel
theorem dX11_bytesIn_19 : decode cX11_bytesIn 19 = .ok (.iinc 1 1, 3) := by decide +kernel
theorem dX11_bytesIn_22 : decode cX11_bytesIn 22 = .ok (.iinc 2 (-8), 3) := by decide +kernel
theorem dX11_bytesIn_25 : decode cX11_bytesIn 25 = .ok (.goto (-20), 3) := by decide +kernel
theorem dX11_bytesIn_28 : decode cX11_bytesIn 28 = .ok (.iload_n 1, 1) := by decide +kernel
theorem dX11_bytesIn_29 : decode cX11_bytesIn 29 = .ok (.ireturn, 1) := by decide +kernel
theorem dX11_isLetter_0 : decode cX11_isLetter 0 = .ok (.iload_n 0, 1) := by decide +kernel
theorem dX11_isLetter_1 : decode cX11_isLetter 1 = .ok (.bipush 97, 2) := by decide +kernel
theorem dX11_isLetter_3 : decode cX11_isLetter 3 = .ok (.if_icmp .lt 13, 3) := by decide +kernel
theorem dX11_isLetter_6 : decode cX11_isLetter 6 = .ok (.iload_n 0, 1) := by decide +kernel
theorem dX11_isLetter_7 : decode cX11_isLetter 7 = .ok (.bipush 122, 2) := by decide +kernel
theorem dX11_isLetter_9 : decode cX11_isLetter 9 = .ok (.if_icmp .gt 7, 3) := by decide +kernel
theorem dX11_isLetter_12 : decode cX11_isLetter 12 = .ok (.iconst 1, 1) := by decide +kernel
theorem dX11_isLetter_13 : decode cX11_isLetter 13 = .ok (.goto 4, 3) := by decide +kernel
theorem dX11_isLetter_16 : decode cX11_isLetter 16 = .ok (.iconst 0, 1) := by decide +kernel
theorem dX11_isLetter_17 : decode cX11_isLetter 17 = .ok (.ireturn, 1) := by decide +kernel
theorem dX11_isDigit_0 : decode cX11_isDigit 0 = .ok (.iload_n 0, 1) := by decide +kernel
theorem dX11_isDigit_1 : decode cX11_isDigit 1 = .ok (.bipush 48, 2) := by decide +kernel
theorem dX11_isDigit_3 : decode cX11_isDigit 3 = .ok (.if_icmp .lt 13, 3) := by decide +kernel
theorem dX11_isDigit_6 : decode cX11_isDigit 6 = .ok (.iload_n 0, 1) := by decide +kernel
theorem dX11_isDigit_7 : decode cX11_isDigit 7 = .ok (.bipush 57, 2) := by decide +kernel
theorem dX11_isDigit_9 : decode cX11_isDigit 9 = .ok (.if_icmp .gt 7, 3) := by decide +kernel
theorem dX11_isDigit_12 : decode cX11_isDigit 12 = .ok (.iconst 1, 1) := by decide +kernel
theorem dX11_isDigit_13 : decode cX11_isDigit 13 = .ok (.goto 4, 3) := by decide +kernel
theorem dX11_isDigit_16 : decode cX11_isDigit 16 = .ok (.iconst 0, 1) := by decide +kernel
theorem dX11_isDigit_17 : decode cX11_isDigit 17 = .ok (.ireturn, 1) := by decide +kernel
theorem dJ0_length_8abf5_0 : decode cJ0_length_8abf5 0 = .ok (.aload_n 0, 1) := by decide +kernel
theorem dJ0_length_8abf5_1 : decode cJ0_length_8abf5 1 = .ok (.getfield 9, 3) := by decide +kernel
theorem dJ0_length_8abf5_4 : decode cJ0_length_8abf5 4 = .ok (.arraylength, 1) := by decide +kernel
theorem dJ0_length_8abf5_5 : decode cJ0_length_8abf5 5 = .ok (.aload_n 0, 1) := by decide +kernel
theorem dJ0_length_8abf5_6 : decode cJ0_length_8abf5 6 = .ok (.invokevirtual 335, 3) := by decide +kernel
theorem dJ0_length_8abf5_9 : decode cJ0_length_8abf5 9 = .ok (.ishr, 1) := by decide +kernel
theorem dJ0_length_8abf5_10 : decode cJ0_length_8abf5 10 = .ok (.ireturn, 1) := by decide +kernel
theorem dJ0_charAt_5068e_0 : decode cJ0_charAt_5068e 0 = .ok (.aload_n 0, 1) := by decide +kernel
theorem dJ0_charAt_5068e_1 : decode cJ0_charAt_5068e 1 = .ok (.invokevirtual 492, 3) := by decide +kernel
theorem dJ0_charAt_5068e_4 : decode cJ0_charAt_5068e 4 = .ok (.ifCond .eq 12, 3) := by decide +kernel
theorem dJ0_charAt_5068e_7 : decode cJ0_charAt_5068e 7 = .ok (.aload_n 0, 1) := by decide +kernel
theorem dJ0_charAt_5068e_8 : decode cJ0_charAt_5068e 8 = .ok (.getfield 9, 3) := by decide +kernel
theorem dJ0_charAt_5068e_11 : decode cJ0_charAt_5068e 11 = .ok (.iload_n 1, 1) := by decide +kernel
theorem dJ0_charAt_5068e_12 : decode cJ0_charAt_5068e 12 = .ok (.invokestatic 495, 3) := by decide +kernel
theorem dJ0_charAt_5068e_15 : decode cJ0_charAt_5068e 15 = .ok (.ireturn, 1) := by decide +kernel
theorem dJ0_charAt_5068e_16 : decode cJ0_charAt_5068e 16 = .ok (.aload_n 0, 1) := by decide +kernel
theorem dJ0_charAt_5068e_17 : decode cJ0_charAt_5068e 17 = .ok (.getfield 9, 3) := by decide +kernel
theorem dJ0_charAt_5068e_20 : decode cJ0_charAt_5068e 20 = .ok (.iload_n 1, 1) := by decide +kernel
theorem dJ0_charAt_5068e_21 : decode cJ0_charAt_5068e 21 = .ok (.invokestatic 498, 3) := by decide +kernel
theorem dJ0_charAt_5068e_24 : decode cJ0_charAt_5068e 24 = .ok (.ireturn, 1) := by decide +kernel
theorem dJ0_coder_7d493_0 : decode cJ0_coder_7d493 0 = .ok (.getstatic 38, 3) := by decide +kernel
theorem dJ0_coder_7d493_3 : decode cJ0_coder_7d493 3 = .ok (.ifCond .eq 10, 3) := by decide +kernel
theorem dJ0_coder_7d493_6 : decode cJ0_coder_7d493 6 = .ok (.aload_n 0, 1) := by decide +kernel
theorem dJ0_coder_7d493_7 : decode cJ0_coder_7d493 7 = .ok (.getfield 15, 3) := by decide +kernel
theorem dJ0_coder_7d493_10 : decode cJ0_coder_7d493 10 = .ok (.goto 4, 3) := by decide +kernel
theorem dJ0_coder_7d493_13 : decode cJ0_coder_7d493 13 = .ok (.iconst 1, 1) := by decide +kernel
theorem dJ0_coder_7d493_14 : decode cJ0_coder_7d493 14 = .ok (.ireturn, 1) := by decide +kernel
theorem dJ0_isLatin1_aae02_0 : decode cJ0_isLatin1_aae02 0 = .ok (.getstatic 38, 3) := by decide +kernel
theorem dJ0_isLatin1_aae02_3 : decode cJ0_isLatin1_aae02 3 = .ok (.ifCond .eq 14, 3) := by decide +kernel
theorem dJ0_isLatin1_aae02_6 : decode cJ0_isLatin1_aae02 6 = .ok (.aload_n 0, 1) := by decide +kernel
theorem dJ0_isLatin1_aae02_7 : decode cJ0_isLatin1_aae02 7 = .ok (.getfield 15, 3) := by decide +kernel
theorem dJ0_isLatin1_aae02_10 : decode cJ0_isLatin1_aae02 10 = .ok (.ifCond .ne 7, 3) := by decide +kernel
theorem dJ0_isLatin1_aae02_13 : decode cJ0_isLatin1_aae02 13 = .ok (.iconst 1, 1) := by decide +kernel
theorem dJ0_isLatin1_aae02_14 : decode cJ0_isLatin1_aae02 14 = .ok (.goto 4, 3) := by decide +kernel
theorem dJ0_isLatin1_aae02_17 : decode cJ0_isLatin1_aae02 17 = .ok (.iconst 0, 1) := by decide +kernel
theorem dJ0_isLatin1_aae02_18 : decode cJ0_isLatin1_aae02 18 = .ok (.ireturn, 1) := by decide +kernel
theorem dJ0_checkIndex_df160_0 : decode cJ0_checkIndex_df160 0 = .ok (.iload_n 0, 1) := by decide +kernel
theorem dJ0_checkIndex_df160_1 : decode cJ0_checkIndex_df160 1 = .ok (.iload_n 1, 1) := by decide +kernel
theorem dJ0_checkIndex_df160_2 : decode cJ0_checkIndex_df160 2 = .ok (.getstatic 1053, 3) := by decide +kernel
theorem dJ0_checkIndex_df160_5 : decode cJ0_checkIndex_df160 5 = .ok (.invokestatic 1059, 3) := by decide +kernel
theorem dJ0_checkIndex_df160_8 : decode cJ0_checkIndex_df160 8 = .ok (.pop, 1) := by decide +kernel
theorem dJ0_checkIndex_df160_9 : decode cJ0_checkIndex_df160 9 = .ok (.return_, 1) := by decide +kernel
theorem dJ1_charAt_3b067_0 : decode cJ1_charAt_3b067 0 = .ok (.iload_n 1, 1) := by decide +kernel
theorem dJ1_charAt_3b067_1 : decode cJ1_charAt_3b067 1 = .ok (.aload_n 0, 1) := by decide +kernel
theorem dJ1_charAt_3b067_2 : decode cJ1_charAt_3b067 2 = .ok (.arraylength, 1) := by decide +kernel
theorem dJ1_charAt_3b067_3 : decode cJ1_charAt_3b067 3 = .ok (.invokestatic 9, 3) := by decide +kernel
theorem dJ1_charAt_3b067_6 : decode cJ1_charAt_3b067 6 = .ok (.aload_n 0, 1) := by decide +kernel
theorem dJ1_charAt_3b067_7 : decode cJ1_charAt_3b067 7 = .ok (.iload_n 1, 1) := by decide +kernel
theorem dJ1_charAt_3b067_8 : decode cJ1_charAt_3b067 8 = .ok (.baload, 1) := by decide +kernel
theorem dJ1_charAt_3b067_9 : decode cJ1_charAt_3b067 9 = .ok (.sipush 255, 3) := by decide +kernel
theorem dJ1_charAt_3b067_12 : decode cJ1_charAt_3b067 12 = .ok (.iand, 1) := by decide +kernel
theorem dJ1_charAt_3b067_13 : decode cJ1_charAt_3b067 13 = .ok (.i2c, 1) := by decide +kernel
theorem dJ1_charAt_3b067_14 : decode cJ1_charAt_3b067 14 = .ok (.ireturn, 1) := by decide +kernel
theorem dJ3_checkIndex_8e157_0 : decode cJ3_checkIndex_8e157 0 = .ok (.iload_n 0, 1) := by decide +kernel
theorem dJ3_checkIndex_8e157_1 : decode cJ3_checkIndex_8e157 1 = .ok (.ifCond .lt 8, 3) := by decide +kernel
theorem dJ3_checkIndex_8e157_4 : decode cJ3_checkIndex_8e157 4 = .ok (.iload_n 0, 1) := by decide +kernel
theorem dJ3_checkIndex_8e157_5 : decode cJ3_checkIndex_8e157 5 = .ok (.iload_n 1, 1) := by decide +kernel
theorem dJ3_checkIndex_8e157_6 : decode cJ3_checkIndex_8e157 6 = .ok (.if_icmp .lt 10, 3) := by decide +kernel
theorem dJ3_checkIndex_8e157_9 : decode cJ3_checkIndex_8e157 9 = .ok (.aload_n 2, 1) := by decide +kernel
theorem dJ3_checkIndex_8e157_10 : decode cJ3_checkIndex_8e157 10 = .ok (.iload_n 0, 1) := by decide +kernel
theorem dJ3_checkIndex_8e157_11 : decode cJ3_checkIndex_8e157 11 = .ok (.iload_n 1, 1) := by decide +kernel
theorem dJ3_checkIndex_8e157_12 : decode cJ3_checkIndex_8e157 12 = .ok (.invokestatic 95, 3) := by decide +kernel
theorem dJ3_checkIndex_8e157_15 : decode cJ3_checkIndex_8e157 15 = .ok (.athrow, 1) := by decide +kernel
theorem dJ3_checkIndex_8e157_16 : decode cJ3_checkIndex_8e157 16 = .ok (.iload_n 0, 1) := by decide +kernel
theorem dJ3_checkIndex_8e157_17 : decode cJ3_checkIndex_8e157 17 = .ok (.ireturn, 1) := by decide +kernel
