theorem dX0_init_0 : decode cX0_init 0 = .ok (.aload_n 0, 1) := by decide +kernel
theorem dX0_init_1 : decode cX0_init 1 = .ok (.invokespecial 3, 3) := by decide +kernel
theorem dX0_init_4 : decode cX0_init 4 = .ok (.aload_n 0, 1) := by decide +kernel
theorem dX0_init_5 : decode cX0_init 5 = .ok (.bipush 13, 2) := by decide +kernel
theorem dX0_init_7 : decode cX0_init 7 = .ok (.newarray .int, 2) := by decide +kernel
theorem dX0_init_9 : decode cX0_init 9 = .ok (.putfield 9, 3) := by decide +kernel
theorem dX0_init_12 : decode cX0_init 12 = .ok (.aload_n 0, 1) := by decide +kernel
theorem dX0_init_13 : decode cX0_init 13 = .ok (.iload_n 1, 1) := by decide +kernel
theorem dX0_init_14 : decode cX0_init 14 = .ok (.putfield 15, 3) := by decide +kernel
theorem dX0_init_17 : decode cX0_init 17 = .ok (.return_, 1) := by decide +kernel
theorem dX0_build_0 : decode cX0_build 0 = .ok (.aload_n 0, 1) := by decide +kernel
theorem dX0_build_1 : decode cX0_build 1 = .ok (.iload_n 1, 1) := by decide +kernel
theorem dX0_build_2 : decode cX0_build 2 = .ok (.putfield 19, 3) := by decide +kernel
theorem dX0_build_5 : decode cX0_build 5 = .ok (.aload_n 0, 1) := by decide +kernel
theorem dX0_build_6 : decode cX0_build 6 = .ok (.iload_n 2, 1) := by decide +kernel
theorem dX0_build_7 : decode cX0_build 7 = .ok (.putfield 22, 3) := by decide +kernel
theorem dX0_build_10 : decode cX0_build 10 = .ok (.aload_n 0, 1) := by decide +kernel
theorem dX0_build_11 : decode cX0_build 11 = .ok (.iload_n 3, 1) := by decide +kernel
theorem dX0_build_12 : decode cX0_build 12 = .ok (.putfield 25, 3) := by decide +kernel
theorem dX0_build_15 : decode cX0_build 15 = .ok (.iconst 0, 1) := by decide +kernel
theorem dX0_build_16 : decode cX0_build 16 = .ok (.istore 4, 2) := by decide +kernel
theorem dX0_build_18 : decode cX0_build 18 = .ok (.iload 4, 2) := by decide +kernel
theorem dX0_build_20 : decode cX0_build 20 = .ok (.aload_n 0, 1) := by decide +kernel
theorem dX0_build_21 : decode cX0_build 21 = .ok (.getfield 9, 3) := by decide +kernel
theorem dX0_build_24 : decode cX0_build 24 = .ok (.arraylength, 1) := by decide +kernel
theorem dX0_build_25 : decode cX0_build 25 = .ok (.if_icmp .ge 17, 3) := by decide +kernel
theorem dX0_build_28 : decode cX0_build 28 = .ok (.aload_n 0, 1) := by decide +kernel
theorem dX0_build_29 : decode cX0_build 29 = .ok (.getfield 9, 3) := by decide +kernel
theorem dX0_build_32 : decode cX0_build 32 = .ok (.iload 4, 2) := by decide +kernel
theorem dX0_build_34 : decode cX0_build 34 = .ok (.iconst (-1), 1) := by decide +kernel
theorem dX0_build_35 : decode cX0_build 35 = .ok (.iastore, 1) := by decide +kernel
theorem dX0_build_36 : decode cX0_build 36 = .ok (.iinc 4 1, 3) := by decide +kernel
theorem dX0_build_39 : decode cX0_build 39 = .ok (.goto (-21), 3) := by decide +kernel
theorem dX0_build_42 : decode cX0_build 42 = .ok (.return_, 1) := by decide +kernel
theorem dX0_hasSeat_0 : decode cX0_hasSeat 0 = .ok (.iload_n 1, 1) := by decide +kernel
theorem dX0_hasSeat_1 : decode cX0_hasSeat 1 = .ok (.ifCond .eq 24, 3) := by decide +kernel
theorem dX0_hasSeat_4 : decode cX0_hasSeat 4 = .ok (.iload_n 1, 1) := by decide +kernel
theorem dX0_hasSeat_5 : decode cX0_hasSeat 5 = .ok (.aload_n 0, 1) := by decide +kernel
theorem dX0_hasSeat_6 : decode cX0_hasSeat 6 = .ok (.getfield 19, 3) := by decide +kernel
theorem dX0_hasSeat_9 : decode cX0_hasSeat 9 = .ok (.ineg, 1) := by decide +kernel
theorem dX0_hasSeat_10 : decode cX0_hasSeat 10 = .ok (.if_icmp .lt 15, 3) := by decide +kernel
theorem dX0_hasSeat_13 : decode cX0_hasSeat 13 = .ok (.iload_n 1, 1) := by decide +kernel
theorem dX0_hasSeat_14 : decode cX0_hasSeat 14 = .ok (.aload_n 0, 1) := by decide +kernel
theorem dX0_hasSeat_15 : decode cX0_hasSeat 15 = .ok (.getfield 19, 3) := by decide +kernel
theorem dX0_hasSeat_18 : decode cX0_hasSeat 18 = .ok (.if_icmp .gt 7, 3) := by decide +kernel
theorem dX0_hasSeat_21 : decode cX0_hasSeat 21 = .ok (.iconst 1, 1) := by decide +kernel
theorem dX0_hasSeat_22 : decode cX0_hasSeat 22 = .ok (.goto 4, 3) := by decide +kernel
theorem dX0_hasSeat_25 : decode cX0_hasSeat 25 = .ok (.iconst 0, 1) := by decide +kernel
theorem dX0_hasSeat_26 : decode cX0_hasSeat 26 = .ok (.ireturn, 1) := by decide +kernel
theorem dX0_ownerAt_0 : decode cX0_ownerAt 0 = .ok (.iload_n 1, 1) := by decide +kernel
theorem dX0_ownerAt_1 : decode cX0_ownerAt 1 = .ok (.bipush 6, 2) := by decide +kernel
theorem dX0_ownerAt_3 : decode cX0_ownerAt 3 = .ok (.iadd, 1) := by decide +kernel
theorem dX0_ownerAt_4 : decode cX0_ownerAt 4 = .ok (.istore_n 2, 1) := by decide +kernel
theorem dX0_ownerAt_5 : decode cX0_ownerAt 5 = .ok (.iload_n 2, 1) := by decide +kernel
theorem dX0_ownerAt_6 : decode cX0_ownerAt 6 = .ok (.ifCond .lt 21, 3) := by decide +kernel
theorem dX0_ownerAt_9 : decode cX0_ownerAt 9 = .ok (.iload_n 2, 1) := by decide +kernel
theorem dX0_ownerAt_10 : decode cX0_ownerAt 10 = .ok (.aload_n 0, 1) := by decide +kernel
theorem dX0_ownerAt_11 : decode cX0_ownerAt 11 = .ok (.getfield 9, 3) := by decide +kernel
theorem dX0_ownerAt_14 : decode cX0_ownerAt 14 = .ok (.arraylength, 1) := by decide +kernel
theorem dX0_ownerAt_15 : decode cX0_ownerAt 15 = .ok (.if_icmp .ge 12, 3) := by decide +kernel
theorem dX0_ownerAt_18 : decode cX0_ownerAt 18 = .ok (.aload_n 0, 1) := by decide +kernel
theorem dX0_ownerAt_19 : decode cX0_ownerAt 19 = .ok (.getfield 9, 3) := by decide +kernel
theorem dX0_ownerAt_22 : decode cX0_ownerAt 22 = .ok (.iload_n 2, 1) := by decide +kernel
theorem dX0_ownerAt_23 : decode cX0_ownerAt 23 = .ok (.iaload, 1) := by decide +kernel
theorem dX0_ownerAt_24 : decode cX0_ownerAt 24 = .ok (.goto 4, 3) := by decide +kernel
theorem dX0_ownerAt_27 : decode cX0_ownerAt 27 = .ok (.iconst (-1), 1) := by decide +kernel
theorem dX0_ownerAt_28 : decode cX0_ownerAt 28 = .ok (.ireturn, 1) := by decide +kernel
theorem dX0_setOwner_0 : decode cX0_setOwner 0 = .ok (.iload_n 1, 1) := by decide +kernel
theorem dX0_setOwner_1 : decode cX0_setOwner 1 = .ok (.bipush 6, 2) := by decide +kernel
theorem dX0_setOwner_3 : decode cX0_setOwner 3 = .ok (.iadd, 1) := by decide +kernel
theorem dX0_setOwner_4 : decode cX0_setOwner 4 = .ok (.istore_n 3, 1) := by decide +kernel
theorem dX0_setOwner_5 : decode cX0_setOwner 5 = .ok (.iload_n 3, 1) := by decide +kernel
theorem dX0_setOwner_6 : decode cX0_setOwner 6 = .ok (.ifCond .lt 19, 3) := by decide +kernel
theorem dX0_setOwner_9 : decode cX0_setOwner 9 = .ok (.iload_n 3, 1) := by decide +kernel
theorem dX0_setOwner_10 : decode cX0_setOwner 10 = .ok (.aload_n 0, 1) := by decide +kernel
theorem dX0_setOwner_11 : decode cX0_setOwner 11 = .ok (.getfield 9, 3) := by decide +kernel
theorem dX0_setOwner_14 : decode cX0_setOwner 14 = .ok (.arraylength, 1) := by decide +kernel
theorem dX0_setOwner_15 : decode cX0_setOwner 15 = .ok (.if_icmp .ge 10, 3) := by decide +kernel
theorem dX0_setOwner_18 : decode cX0_setOwner 18 = .ok (.aload_n 0, 1) := by decide +kernel
theorem dX0_setOwner_19 : decode cX0_setOwner 19 = .ok (.getfield 9, 3) := by decide +kernel
theorem dX0_setOwner_22 : decode cX0_setOwner 22 = .ok (.iload_n 3, 1) := by decide +kernel
theorem dX0_setOwner_23 : decode cX0_setOwner 23 = .ok (.iload_n 2, 1) := by decide +kernel
theorem dX0_setOwner_24 : decode cX0_setOwner 24 = .ok (.iastore, 1) := by decide +kernel
theorem dX0_setOwner_25 : decode cX0_setOwner 25 = .ok (.return_, 1) := by decide +kernel
theorem dX0_isFree_0 : decode cX0_isFree 0 = .ok (.aload_n 0, 1) := by decide +kernel
theorem dX0_isFree_1 : decode cX0_isFree 1 = .ok (.iload_n 1, 1) := by decide +kernel
theorem dX0_isFree_2 : decode cX0_isFree 2 = .ok (.invokevirtual 28, 3) := by decide +kernel
theorem dX0_isFree_5 : decode cX0_isFree 5 = .ok (.ifCond .eq 16, 3) := by decide +kernel
theorem dX0_isFree_8 : decode cX0_isFree 8 = .ok (.aload_n 0, 1) := by decide +kernel
theorem dX0_isFree_9 : decode cX0_isFree 9 = .ok (.iload_n 1, 1) := by decide +kernel
theorem dX0_isFree_10 : decode cX0_isFree 10 = .ok (.invokevirtual 32, 3) := by decide +kernel
theorem dX0_isFree_13 : decode cX0_isFree 13 = .ok (.iconst (-1), 1) := by decide +kernel
theorem dX0_isFree_14 : decode cX0_isFree 14 = .ok (.if_icmp .ne 7, 3) := by decide +kernel
theorem dX0_isFree_17 : decode cX0_isFree 17 = .ok (.iconst 1, 1) := by decide +kernel
theorem dX0_isFree_18 : decode cX0_isFree 18 = .ok (.goto 4, 3) := by decide +kernel
theorem dX0_isFree_21 : decode cX0_isFree 21 = .ok (.iconst 0, 1) := by decide +kernel
theorem dX0_isFree_22 : decode cX0_isFree 22 = .ok (.ireturn, 1) := by decide +kernel
theorem dX0_tipsUnder_0 : decode cX0_tipsUnder 0 = .ok (.iload_n 1, 1) := by decide +kernel
theorem dX0_tipsUnder_1 : decode cX0_tipsUnder 1 = .ok (.invokestatic 36, 3) := by decide +kernel
theorem dX0_tipsUnder_4 : decode cX0_tipsUnder 4 = .ok (.aload_n 0, 1) := by decide +kernel
theorem dX0_tipsUnder_5 : decode cX0_tipsUnder 5 = .ok (.getfield 25, 3) := by decide +kernel
theorem dX0_tipsUnder_8 : decode cX0_tipsUnder 8 = .ok (.if_icmp .le 7, 3) := by decide +kernel
theorem dX0_tipsUnder_11 : decode cX0_tipsUnder 11 = .ok (.iconst 1, 1) := by decide +kernel
theorem dX0_tipsUnder_12 : decode cX0_tipsUnder 12 = .ok (.goto 4, 3) := by decide +kernel
theorem dX0_tipsUnder_15 : decode cX0_tipsUnder 15 = .ok (.iconst 0, 1) := by decide +kernel
theorem dX0_tipsUnder_16 : decode cX0_tipsUnder 16 = .ok (.ireturn, 1) := by decide +kernel
theorem dX0_tiltUnder_0 : decode cX0_tiltUnder 0 = .ok (.aload_n 0, 1) := by decide +kernel
theorem dX0_tiltUnder_1 : decode cX0_tiltUnder 1 = .ok (.getfield 22, 3) := by decide +kernel
theorem dX0_tiltUnder_4 : decode cX0_tiltUnder 4 = .ok (.iconst 1, 1) := by decide +kernel
theorem dX0_tiltUnder_5 : decode cX0_tiltUnder 5 = .ok (.if_icmp .ge 5, 3) := by decide +kernel
theorem dX0_tiltUnder_8 : decode cX0_tiltUnder 8 = .ok (.iconst 0, 1) := by decide +kernel
theorem dX0_tiltUnder_9 : decode cX0_tiltUnder 9 = .ok (.ireturn, 1) := by decide +kernel
theorem dX0_tiltUnder_10 : decode cX0_tiltUnder 10 = .ok (.bipush (-9), 2) := by decide +kernel
theorem dX0_tiltUnder_12 : decode cX0_tiltUnder 12 = .ok (.bipush 9, 2) := by decide +kernel
theorem dX0_tiltUnder_14 : decode cX0_tiltUnder 14 = .ok (.iload_n 1, 1) := by decide +kernel
theorem dX0_tiltUnder_15 : decode cX0_tiltUnder 15 = .ok (.aload_n 0, 1) := by decide +kernel
theorem dX0_tiltUnder_16 : decode cX0_tiltUnder 16 = .ok (.getfield 22, 3) := by decide +kernel
theorem dX0_tiltUnder_19 : decode cX0_tiltUnder 19 = .ok (.idiv, 1) := by decide +kernel
theorem dX0_tiltUnder_20 : decode cX0_tiltUnder 20 = .ok (.invokestatic 41, 3) := by decide +kernel
theorem dX0_tiltUnder_23 : decode cX0_tiltUnder 23 = .ok (.invokestatic 45, 3) := by decide +kernel
theorem dX0_tiltUnder_26 : decode cX0_tiltUnder 26 = .ok (.ireturn, 1) := by decide +kernel
theorem dX0_copyFrom_0 : decode cX0_copyFrom 0 = .ok (.aload_n 0, 1) := by decide +kernel
theorem dX0_copyFrom_1 : decode cX0_copyFrom 1 = .ok (.aload_n 1, 1) := by decide +kernel
theorem dX0_copyFrom_2 : decode cX0_copyFrom 2 = .ok (.getfield 19, 3) := by decide +kernel
theorem dX0_copyFrom_5 : decode cX0_copyFrom 5 = .ok (.putfield 19, 3) := by decide +kernel
theorem dX0_copyFrom_8 : decode cX0_copyFrom 8 = .ok (.aload_n 0, 1) := by decide +kernel
theorem dX0_copyFrom_9 : decode cX0_copyFrom 9 = .ok (.aload_n 1, 1) := by decide +kernel
theorem dX0_copyFrom_10 : decode cX0_copyFrom 10 = .ok (.getfield 22, 3) := by decide +kernel
theorem dX0_copyFrom_13 : decode cX0_copyFrom 13 = .ok (.putfield 22, 3) := by decide +kernel
theorem dX0_copyFrom_16 : decode cX0_copyFrom 16 = .ok (.aload_n 0, 1) := by decide +kernel
theorem dX0_copyFrom_17 : decode cX0_copyFrom 17 = .ok (.aload_n 1, 1) := by decide +kernel
theorem dX0_copyFrom_18 : decode cX0_copyFrom 18 = .ok (.getfield 25, 3) := by decide +kernel
theorem dX0_copyFrom_21 : decode cX0_copyFrom 21 = .ok (.putfield 25, 3) := by decide +kernel
theorem dX0_copyFrom_24 : decode cX0_copyFrom 24 = .ok (.aload_n 1, 1) := by decide +kernel
theorem dX0_copyFrom_25 : decode cX0_copyFrom 25 = .ok (.getfield 9, 3) := by decide +kernel
theorem dX0_copyFrom_28 : decode cX0_copyFrom 28 = .ok (.iconst 0, 1) := by decide +kernel
theorem dX0_copyFrom_29 : decode cX0_copyFrom 29 = .ok (.aload_n 0, 1) := by decide +kernel
theorem dX0_copyFrom_30 : decode cX0_copyFrom 30 = .ok (.getfield 9, 3) := by decide +kernel
theorem dX0_copyFrom_33 : decode cX0_copyFrom 33 = .ok (.iconst 0, 1) := by decide +kernel
theorem dX0_copyFrom_34 : decode cX0_copyFrom 34 = .ok (.aload_n 0, 1) := by decide +kernel
theorem dX0_copyFrom_35 : decode cX0_copyFrom 35 = .ok (.getfield 9, 3) := by decide +kernel
theorem dX0_copyFrom_38 : decode cX0_copyFrom 38 = .ok (.arraylength, 1) := by decide +kernel
theorem dX0_copyFrom_39 : decode cX0_copyFrom 39 = .ok (.invokestatic 48, 3) := by decide +kernel
theorem dX0_copyFrom_42 : decode cX0_copyFrom 42 = .ok (.return_, 1) := by decide +kernel
theorem dX1_init_0 : decode cX1_init 0 = .ok (.aload_n 0, 1) := by decide +kernel
theorem dX1_init_1 : decode cX1_init 1 = .ok (.invokespecial 3, 3) := by decide +kernel
theorem dX1_init_4 : decode cX1_init 4 = .ok (.return_, 1) := by decide +kernel
theorem dX1_kindOfWord_0 : decode cX1_kindOfWord 0 = .ok (.aload_n 0, 1) := by decide +kernel
theorem dX1_kindOfWord_1 : decode cX1_kindOfWord 1 = .ok (.ldc 9, 2) := by decide +kernel
theorem dX1_kindOfWord_3 : decode cX1_kindOfWord 3 = .ok (.invokevirtual 11, 3) := by decide +kernel
theorem dX1_kindOfWord_6 : decode cX1_kindOfWord 6 = .ok (.ifCond .eq 5, 3) := by decide +kernel
theorem dX1_kindOfWord_9 : decode cX1_kindOfWord 9 = .ok (.iconst 1, 1) := by decide +kernel
theorem dX1_kindOfWord_10 : decode cX1_kindOfWord 10 = .ok (.ireturn, 1) := by decide +kernel
theorem dX1_kindOfWord_11 : decode cX1_kindOfWord 11 = .ok (.aload_n 0, 1) := by decide +kernel
theorem dX1_kindOfWord_12 : decode cX1_kindOfWord 12 = .ok (.ldc 19, 2) := by decide +kernel
theorem dX1_kindOfWord_14 : decode cX1_kindOfWord 14 = .ok (.invokevirtual 11, 3) := by decide +kernel
theorem dX1_kindOfWord_17 : decode cX1_kindOfWord 17 = .ok (.ifCond .eq 5, 3) := by decide +kernel
theorem dX1_kindOfWord_20 : decode cX1_kindOfWord 20 = .ok (.iconst 2, 1) := by decide +kernel
theorem dX1_kindOfWord_21 : decode cX1_kindOfWord 21 = .ok (.ireturn, 1) := by decide +kernel
theorem dX1_kindOfWord_22 : decode cX1_kindOfWord 22 = .ok (.aload_n 0, 1) := by decide +kernel
theorem dX1_kindOfWord_23 : decode cX1_kindOfWord 23 = .ok (.ldc 21, 2) := by decide +kernel
theorem dX1_kindOfWord_25 : decode cX1_kindOfWord 25 = .ok (.invokevirtual 11, 3) := by decide +kernel
theorem dX1_kindOfWord_28 : decode cX1_kindOfWord 28 = .ok (.ifCond .eq 5, 3) := by decide +kernel
theorem dX1_kindOfWord_31 : decode cX1_kindOfWord 31 = .ok (.iconst 3, 1) := by decide +kernel
theorem dX1_kindOfWord_32 : decode cX1_kindOfWord 32 = .ok (.ireturn, 1) := by decide +kernel
theorem dX1_kindOfWord_33 : decode cX1_kindOfWord 33 = .ok (.aload_n 0, 1) := by decide +kernel
theorem dX1_kindOfWord_34 : decode cX1_kindOfWord 34 = .ok (.ldc 23, 2) := by decide +kernel
theorem dX1_kindOfWord_36 : decode cX1_kindOfWord 36 = .ok (.invokevirtual 11, 3) := by decide +kernel
theorem dX1_kindOfWord_39 : decode cX1_kindOfWord 39 = .ok (.ifCond .eq 5, 3) := by decide +kernel
theorem dX1_kindOfWord_42 : decode cX1_kindOfWord 42 = .ok (.iconst 4, 1) := by decide +kernel
theorem dX1_kindOfWord_43 : decode cX1_kindOfWord 43 = .ok (.ireturn, 1) := by decide +kernel
theorem dX1_kindOfWord_44 : decode cX1_kindOfWord 44 = .ok (.aload_n 0, 1) := by decide +kernel
theorem dX1_kindOfWord_45 : decode cX1_kindOfWord 45 = .ok (.ldc 25, 2) := by decide +kernel
theorem dX1_kindOfWord_47 : decode cX1_kindOfWord 47 = .ok (.invokevirtual 11, 3) := by decide +kernel
theorem dX1_kindOfWord_50 : decode cX1_kindOfWord 50 = .ok (.ifCond .eq 5, 3) := by decide +kernel
theorem dX1_kindOfWord_53 : decode cX1_kindOfWord 53 = .ok (.iconst 5, 1) := by decide +kernel
theorem dX1_kindOfWord_54 : decode cX1_kindOfWord 54 = .ok (.ireturn, 1) := by decide +kernel
theorem dX1_kindOfWord_55 : decode cX1_kindOfWord 55 = .ok (.aload_n 0, 1) := by decide +kernel
theorem dX1_kindOfWord_56 : decode cX1_kindOfWord 56 = .ok (.ldc 27, 2) := by decide +kernel
theorem dX1_kindOfWord_58 : decode cX1_kindOfWord 58 = .ok (.invokevirtual 11, 3) := by decide +kernel
theorem dX1_kindOfWord_61 : decode cX1_kindOfWord 61 = .ok (.ifCond .eq 6, 3) := by decide +kernel
theorem dX1_kindOfWord_64 : decode cX1_kindOfWord 64 = .ok (.bipush 6, 2) := by decide +kernel
theorem dX1_kindOfWord_66 : decode cX1_kindOfWord 66 = .ok (.ireturn, 1) := by decide +kernel
theorem dX1_kindOfWord_67 : decode cX1_kindOfWord 67 = .ok (.aload_n 0, 1) := by decide +kernel
theorem dX1_kindOfWord_68 : decode cX1_kindOfWord 68 = .ok (.ldc 29, 2) := by decide +kernel
theorem dX1_kindOfWord_70 : decode cX1_kindOfWord 70 = .ok (.invokevirtual 11, 3) := by decide +kernel
theorem dX1_kindOfWord_73 : decode cX1_kindOfWord 73 = .ok (.ifCond .eq 6, 3) := by decide +kernel
theorem dX1_kindOfWord_76 : decode cX1_kindOfWord 76 = .ok (.bipush 7, 2) := by decide +kernel
theorem dX1_kindOfWord_78 : decode cX1_kindOfWord 78 = .ok (.ireturn, 1) := by decide +kernel
theorem dX1_kindOfWord_79 : decode cX1_kindOfWord 79 = .ok (.aload_n 0, 1) := by decide +kernel
theorem dX1_kindOfWord_80 : decode cX1_kindOfWord 80 = .ok (.ldc 31, 2) := by decide +kernel
theorem dX1_kindOfWord_82 : decode cX1_kindOfWord 82 = .ok (.invokevirtual 11, 3) := by decide +kernel
theorem dX1_kindOfWord_85 : decode cX1_kindOfWord 85 = .ok (.ifCond .eq 8, 3) := by decide +kernel
theorem dX1_kindOfWord_88 : decode cX1_kindOfWord 88 = .ok (.bipush 8, 2) := by decide +kernel
theorem dX1_kindOfWord_90 : decode cX1_kindOfWord 90 = .ok (.goto 4, 3) := by decide +kernel
theorem dX1_kindOfWord_93 : decode cX1_kindOfWord 93 = .ok (.iconst (-1), 1) := by decide +kernel
theorem dX1_kindOfWord_94 : decode cX1_kindOfWord 94 = .ok (.ireturn, 1) := by decide +kernel
theorem dX1_readWords_0 : decode cX1_readWords 0 = .ok (.aload_n 0, 1) := by decide +kernel
theorem dX1_readWords_1 : decode cX1_readWords 1 = .ok (.getfield 33, 3) := by decide +kernel
theorem dX1_readWords_4 : decode cX1_readWords 4 = .ok (.tableswitch 181 1 7 #[44, 78, 115, 126, 145, 153, 167], 44) := by decide +kernel
theorem dX1_readWords_48 : decode cX1_readWords 48 = .ok (.aload_n 0, 1) := by decide +kernel
theorem dX1_readWords_49 : decode cX1_readWords 49 = .ok (.aload_n 1, 1) := by decide +kernel
theorem dX1_readWords_50 : decode cX1_readWords 50 = .ok (.invokevirtual 37, 3) := by decide +kernel
theorem dX1_readWords_53 : decode cX1_readWords 53 = .ok (.putfield 41, 3) := by decide +kernel
theorem dX1_readWords_56 : decode cX1_readWords 56 = .ok (.aload_n 0, 1) := by decide +kernel
theorem dX1_readWords_57 : decode cX1_readWords 57 = .ok (.aload_n 1, 1) := by decide +kernel
theorem dX1_readWords_58 : decode cX1_readWords 58 = .ok (.iconst 1, 1) := by decide +kernel
theorem dX1_readWords_59 : decode cX1_readWords 59 = .ok (.bipush 99, 2) := by decide +kernel
theorem dX1_readWords_61 : decode cX1_readWords 61 = .ok (.invokevirtual 45, 3) := by decide +kernel
theorem dX1_readWords_64 : decode cX1_readWords 64 = .ok (.putfield 49, 3) := by decide +kernel
theorem dX1_readWords_67 : decode cX1_readWords 67 = .ok (.aload_n 0, 1) := by decide +kernel
theorem dX1_readWords_68 : decode cX1_readWords 68 = .ok (.aload_n 1, 1) := by decide +kernel
theorem dX1_readWords_69 : decode cX1_readWords 69 = .ok (.iconst 0, 1) := by decide +kernel
theorem dX1_readWords_70 : decode cX1_readWords 70 = .ok (.sipush 9999, 3) := by decide +kernel
theorem dX1_readWords_73 : decode cX1_readWords 73 = .ok (.invokevirtual 45, 3) := by decide +kernel
theorem dX1_readWords_76 : decode cX1_readWords 76 = .ok (.putfield 52, 3) := by decide +kernel
theorem dX1_readWords_79 : decode cX1_readWords 79 = .ok (.goto 117, 3) := by decide +kernel
theorem dX1_readWords_82 : decode cX1_readWords 82 = .ok (.aload_n 0, 1) := by decide +kernel
theorem dX1_readWords_83 : decode cX1_readWords 83 = .ok (.aload_n 1, 1) := by decide +kernel
theorem dX1_readWords_84 : decode cX1_readWords 84 = .ok (.invokevirtual 37, 3) := by decide +kernel
theorem dX1_readWords_87 : decode cX1_readWords 87 = .ok (.putfield 41, 3) := by decide +kernel
theorem dX1_readWords_90 : decode cX1_readWords 90 = .ok (.aload_n 0, 1) := by decide +kernel
theorem dX1_readWords_91 : decode cX1_readWords 91 = .ok (.aload_n 1, 1) := by decide +kernel
theorem dX1_readWords_92 : decode cX1_readWords 92 = .ok (.iconst 0, 1) := by decide +kernel
theorem dX1_readWords_93 : decode cX1_readWords 93 = .ok (.iconst 4, 1) := by decide +kernel
theorem dX1_readWords_94 : decode cX1_readWords 94 = .ok (.invokevirtual 45, 3) := by decide +kernel
theorem dX1_readWords_97 : decode cX1_readWords 97 = .ok (.putfield 49, 3) := by decide +kernel
theorem dX1_readWords_100 : decode cX1_readWords 100 = .ok (.aload_n 0, 1) := by decide +kernel
theorem dX1_readWords_101 : decode cX1_readWords 101 = .ok (.aload_n 1, 1) := by decide +kernel
theorem dX1_readWords_102 : decode cX1_readWords 102 = .ok (.invokevirtual 55, 3) := by decide +kernel
theorem dX1_readWords_105 : decode cX1_readWords 105 = .ok (.aload_n 1, 1) := by decide +kernel
theorem dX1_readWords_106 : decode cX1_readWords 106 = .ok (.iconst 1, 1) := by decide +kernel
theorem dX1_readWords_107 : decode cX1_readWords 107 = .ok (.bipush 6, 2) := by decide +kernel
theorem dX1_readWords_109 : decode cX1_readWords 109 = .ok (.invokevirtual 45, 3) := by decide +kernel
theorem dX1_readWords_112 : decode cX1_readWords 112 = .ok (.imul, 1) := by decide +kernel
theorem dX1_readWords_113 : decode cX1_readWords 113 = .ok (.putfield 59, 3) := by decide +kernel
theorem dX1_readWords_116 : decode cX1_readWords 116 = .ok (.goto 80, 3) := by decide +kernel
theorem dX1_readWords_119 : decode cX1_readWords 119 = .ok (.aload_n 0, 1) := by decide +kernel
theorem dX1_readWords_120 : decode cX1_readWords 120 = .ok (.aload_n 1, 1) := by decide +kernel
theorem dX1_readWords_121 : decode cX1_readWords 121 = .ok (.invokevirtual 37, 3) := by decide +kernel
theorem dX1_readWords_124 : decode cX1_readWords 124 = .ok (.putfield 41, 3) := by decide +kernel
theorem dX1_readWords_127 : decode cX1_readWords 127 = .ok (.goto 69, 3) := by decide +kernel
theorem dX1_readWords_130 : decode cX1_readWords 130 = .ok (.aload_n 0, 1) := by decide +kernel
theorem dX1_readWords_131 : decode cX1_readWords 131 = .ok (.aload_n 1, 1) := by decide +kernel
theorem dX1_readWords_132 : decode cX1_readWords 132 = .ok (.invokevirtual 62, 3) := by decide +kernel
theorem dX1_readWords_135 : decode cX1_readWords 135 = .ok (.aload_n 0, 1) := by decide +kernel
theorem dX1_readWords_136 : decode cX1_readWords 136 = .ok (.aload_n 1, 1) := by decide +kernel
theorem dX1_readWords_137 : decode cX1_readWords 137 = .ok (.iconst 1, 1) := by decide +kernel
theorem dX1_readWords_138 : decode cX1_readWords 138 = .ok (.bipush 50, 2) := by decide +kernel
theorem dX1_readWords_140 : decode cX1_readWords 140 = .ok (.invokevirtual 45, 3) := by decide +kernel
theorem dX1_readWords_143 : decode cX1_readWords 143 = .ok (.putfield 49, 3) := by decide +kernel
theorem dX1_readWords_146 : decode cX1_readWords 146 = .ok (.goto 50, 3) := by decide +kernel
theorem dX1_readWords_149 : decode cX1_readWords 149 = .ok (.aload_n 0, 1) := by decide +kernel
theorem dX1_readWords_150 : decode cX1_readWords 150 = .ok (.aload_n 1, 1) := by decide +kernel
theorem dX1_readWords_151 : decode cX1_readWords 151 = .ok (.invokevirtual 62, 3) := by decide +kernel
theorem dX1_readWords_154 : decode cX1_readWords 154 = .ok (.goto 42, 3) := by decide +kernel
theorem dX1_readWords_157 : decode cX1_readWords 157 = .ok (.aload_n 0, 1) := by decide +kernel
theorem dX1_readWords_158 : decode cX1_readWords 158 = .ok (.aload_n 1, 1) := by decide +kernel
theorem dX1_readWords_159 : decode cX1_readWords 159 = .ok (.iconst 0, 1) := by decide +kernel
theorem dX1_readWords_160 : decode cX1_readWords 160 = .ok (.bipush 20, 2) := by decide +kernel
theorem dX1_readWords_162 : decode cX1_readWords 162 = .ok (.invokevirtual 45, 3) := by decide +kernel
theorem dX1_readWords_165 : decode cX1_readWords 165 = .ok (.putfield 49, 3) := by decide +kernel
theorem dX1_readWords_168 : decode cX1_readWords 168 = .ok (.goto 28, 3) := by decide +kernel
theorem dX1_readWords_171 : decode cX1_readWords 171 = .ok (.aload_n 0, 1) := by decide +kernel
theorem dX1_readWords_172 : decode cX1_readWords 172 = .ok (.aload_n 1, 1) := by decide +kernel
theorem dX1_readWords_173 : decode cX1_readWords 173 = .ok (.iconst 1, 1) := by decide +kernel
theorem dX1_readWords_174 : decode cX1_readWords 174 = .ok (.bipush 30, 2) := by decide +kernel
theorem dX1_readWords_176 : decode cX1_readWords 176 = .ok (.invokevirtual 45, 3) := by decide +kernel
theorem dX1_readWords_179 : decode cX1_readWords 179 = .ok (.putfield 49, 3) := by decide +kernel
theorem dX1_readWords_182 : decode cX1_readWords 182 = .ok (.goto 14, 3) := by decide +kernel
theorem dX1_readWords_185 : decode cX1_readWords 185 = .ok (.aload_n 0, 1) := by decide +kernel
theorem dX1_readWords_186 : decode cX1_readWords 186 = .ok (.aload_n 1, 1) := by decide +kernel
theorem dX1_readWords_187 : decode cX1_readWords 187 = .ok (.iconst 1, 1) := by decide +kernel
theorem dX1_readWords_188 : decode cX1_readWords 188 = .ok (.bipush 20, 2) := by decide +kernel
theorem dX1_readWords_190 : decode cX1_readWords 190 = .ok (.invokevirtual 45, 3) := by decide +kernel
theorem dX1_readWords_193 : decode cX1_readWords 193 = .ok (.putfield 49, 3) := by decide +kernel
theorem dX1_readWords_196 : decode cX1_readWords 196 = .ok (.return_, 1) := by decide +kernel
theorem dX1_readTwoNames_0 : decode cX1_readTwoNames 0 = .ok (.aload_n 0, 1) := by decide +kernel
theorem dX1_readTwoNames_1 : decode cX1_readTwoNames 1 = .ok (.aload_n 1, 1) := by decide +kernel
theorem dX1_readTwoNames_2 : decode cX1_readTwoNames 2 = .ok (.invokevirtual 37, 3) := by decide +kernel
theorem dX1_readTwoNames_5 : decode cX1_readTwoNames 5 = .ok (.putfield 41, 3) := by decide +kernel
theorem dX1_readTwoNames_8 : decode cX1_readTwoNames 8 = .ok (.aload_n 0, 1) := by decide +kernel
theorem dX1_readTwoNames_9 : decode cX1_readTwoNames 9 = .ok (.aload_n 1, 1) := by decide +kernel
theorem dX1_readTwoNames_10 : decode cX1_readTwoNames 10 = .ok (.invokevirtual 37, 3) := by decide +kernel
theorem dX1_readTwoNames_13 : decode cX1_readTwoNames 13 = .ok (.putfield 66, 3) := by decide +kernel
theorem dX1_readTwoNames_16 : decode cX1_readTwoNames 16 = .ok (.aload_n 0, 1) := by decide +kernel
theorem dX1_readTwoNames_17 : decode cX1_readTwoNames 17 = .ok (.getfield 41, 3) := by decide +kernel
theorem dX1_readTwoNames_20 : decode cX1_readTwoNames 20 = .ok (.aload_n 0, 1) := by decide +kernel
theorem dX1_readTwoNames_21 : decode cX1_readTwoNames 21 = .ok (.getfield 66, 3) := by decide +kernel
theorem dX1_readTwoNames_24 : decode cX1_readTwoNames 24 = .ok (.lcmp, 1) := by decide +kernel
theorem dX1_readTwoNames_25 : decode cX1_readTwoNames 25 = .ok (.ifCond .ne 8, 3) := by decide +kernel
theorem dX1_readTwoNames_28 : decode cX1_readTwoNames 28 = .ok (.aload_n 1, 1) := by decide +kernel
theorem dX1_readTwoNames_29 : decode cX1_readTwoNames 29 = .ok (.iconst 3, 1) := by decide +kernel
theorem dX1_readTwoNames_30 : decode cX1_readTwoNames 30 = .ok (.invokevirtual 69, 3) := by decide +kernel
theorem dX1_readTwoNames_33 : decode cX1_readTwoNames 33 = .ok (.return_, 1) := by decide +kernel
theorem dX1_performOn_0 : decode cX1_performOn 0 = .ok (.aload_n 0, 1) := by decide +kernel
theorem dX1_performOn_1 : decode cX1_performOn 1 = .ok (.getfield 33, 3) := by decide +kernel
theorem dX1_performOn_4 : decode cX1_performOn 4 = .ok (.tableswitch 154 1 7 #[44, 50, 64, 77, 99, 120, 130], 44) := by decide +kernel
theorem dX1_performOn_48 : decode cX1_performOn 48 = .ok (.aload_n 0, 1) := by decide +kernel
theorem dX1_performOn_49 : decode cX1_performOn 49 = .ok (.aload_n 1, 1) := by decide +kernel
theorem dX1_performOn_50 : decode cX1_performOn 50 = .ok (.invokevirtual 73, 3) := by decide +kernel
theorem dX1_performOn_53 : decode cX1_performOn 53 = .ok (.ireturn, 1) := by decide +kernel
theorem dX1_performOn_54 : decode cX1_performOn 54 = .ok (.aload_n 0, 1) := by decide +kernel
theorem dX1_performOn_55 : decode cX1_performOn 55 = .ok (.aload_n 1, 1) := by decide +kernel
theorem dX1_performOn_56 : decode cX1_performOn 56 = .ok (.aload_n 1, 1) := by decide +kernel
theorem dX1_performOn_57 : decode cX1_performOn 57 = .ok (.aload_n 0, 1) := by decide +kernel
theorem dX1_performOn_58 : decode cX1_performOn 58 = .ok (.getfield 41, 3) := by decide +kernel
theorem dX1_performOn_61 : decode cX1_performOn 61 = .ok (.invokevirtual 77, 3) := by decide +kernel
theorem dX1_performOn_64 : decode cX1_performOn 64 = .ok (.invokevirtual 83, 3) := by decide +kernel
theorem dX1_performOn_67 : decode cX1_performOn 67 = .ok (.ireturn, 1) := by decide +kernel
theorem dX1_performOn_68 : decode cX1_performOn 68 = .ok (.aload_n 1, 1) := by decide +kernel
theorem dX1_performOn_69 : decode cX1_performOn 69 = .ok (.aload_n 1, 1) := by decide +kernel
theorem dX1_performOn_70 : decode cX1_performOn 70 = .ok (.aload_n 0, 1) := by decide +kernel
theorem dX1_performOn_71 : decode cX1_performOn 71 = .ok (.getfield 41, 3) := by decide +kernel
theorem dX1_performOn_74 : decode cX1_performOn 74 = .ok (.invokevirtual 77, 3) := by decide +kernel
theorem dX1_performOn_77 : decode cX1_performOn 77 = .ok (.invokestatic 87, 3) := by decide +kernel
theorem dX1_performOn_80 : decode cX1_performOn 80 = .ok (.ireturn, 1) := by decide +kernel
theorem dX1_performOn_81 : decode cX1_performOn 81 = .ok (.aload_n 0, 1) := by decide +kernel
theorem dX1_performOn_82 : decode cX1_performOn 82 = .ok (.aload_n 1, 1) := by decide +kernel
theorem dX1_performOn_83 : decode cX1_performOn 83 = .ok (.aload_n 1, 1) := by decide +kernel
theorem dX1_performOn_84 : decode cX1_performOn 84 = .ok (.aload_n 0, 1) := by decide +kernel
theorem dX1_performOn_85 : decode cX1_performOn 85 = .ok (.getfield 41, 3) := by decide +kernel
theorem dX1_performOn_88 : decode cX1_performOn 88 = .ok (.invokevirtual 77, 3) := by decide +kernel
theorem dX1_performOn_91 : decode cX1_performOn 91 = .ok (.aload_n 1, 1) := by decide +kernel
theorem dX1_performOn_92 : decode cX1_performOn 92 = .ok (.aload_n 0, 1) := by decide +kernel
theorem dX1_performOn_93 : decode cX1_performOn 93 = .ok (.getfield 66, 3) := by decide +kernel
theorem dX1_performOn_96 : decode cX1_performOn 96 = .ok (.invokevirtual 77, 3) := by decide +kernel
theorem dX1_performOn_99 : decode cX1_performOn 99 = .ok (.invokevirtual 90, 3) := by decide +kernel
theorem dX1_performOn_102 : decode cX1_performOn 102 = .ok (.ireturn, 1) := by decide +kernel
theorem dX1_performOn_103 : decode cX1_performOn 103 = .ok (.aload_n 1, 1) := by decide +kernel
theorem dX1_performOn_104 : decode cX1_performOn 104 = .ok (.aload_n 1, 1) := by decide +kernel
theorem dX1_performOn_105 : decode cX1_performOn 105 = .ok (.aload_n 0, 1) := by decide +kernel
theorem dX1_performOn_106 : decode cX1_performOn 106 = .ok (.getfield 41, 3) := by decide +kernel
theorem dX1_performOn_109 : decode cX1_performOn 109 = .ok (.invokevirtual 77, 3) := by decide +kernel
theorem dX1_performOn_112 : decode cX1_performOn 112 = .ok (.aload_n 1, 1) := by decide +kernel
theorem dX1_performOn_113 : decode cX1_performOn 113 = .ok (.aload_n 0, 1) := by decide +kernel
theorem dX1_performOn_114 : decode cX1_performOn 114 = .ok (.getfield 66, 3) := by decide +kernel
theorem dX1_performOn_117 : decode cX1_performOn 117 = .ok (.invokevirtual 77, 3) := by decide +kernel
theorem dX1_performOn_120 : decode cX1_performOn 120 = .ok (.invokestatic 94, 3) := by decide +kernel
theorem dX1_performOn_123 : decode cX1_performOn 123 = .ok (.ireturn, 1) := by decide +kernel
theorem dX1_performOn_124 : decode cX1_performOn 124 = .ok (.aload_n 1, 1) := by decide +kernel
theorem dX1_performOn_125 : decode cX1_performOn 125 = .ok (.aload_n 0, 1) := by decide +kernel
theorem dX1_performOn_126 : decode cX1_performOn 126 = .ok (.getfield 49, 3) := by decide +kernel
theorem dX1_performOn_129 : decode cX1_performOn 129 = .ok (.putfield 97, 3) := by decide +kernel
theorem dX1_performOn_132 : decode cX1_performOn 132 = .ok (.iconst 1, 1) := by decide +kernel
theorem dX1_performOn_133 : decode cX1_performOn 133 = .ok (.ireturn, 1) := by decide +kernel
theorem dX1_performOn_134 : decode cX1_performOn 134 = .ok (.aload_n 1, 1) := by decide +kernel
theorem dX1_performOn_135 : decode cX1_performOn 135 = .ok (.aload_n 0, 1) := by decide +kernel
theorem dX1_performOn_136 : decode cX1_performOn 136 = .ok (.getfield 49, 3) := by decide +kernel
theorem dX1_performOn_139 : decode cX1_performOn 139 = .ok (.invokevirtual 99, 3) := by decide +kernel
theorem dX1_performOn_142 : decode cX1_performOn 142 = .ok (.ifCond .ne 5, 3) := by decide +kernel
theorem dX1_performOn_145 : decode cX1_performOn 145 = .ok (.iconst 0, 1) := by decide +kernel
theorem dX1_performOn_146 : decode cX1_performOn 146 = .ok (.ireturn, 1) := by decide +kernel
theorem dX1_performOn_147 : decode cX1_performOn 147 = .ok (.aload_n 1, 1) := by decide +kernel
theorem dX1_performOn_148 : decode cX1_performOn 148 = .ok (.aload_n 0, 1) := by decide +kernel
theorem dX1_performOn_149 : decode cX1_performOn 149 = .ok (.getfield 49, 3) := by decide +kernel
theorem dX1_performOn_152 : decode cX1_performOn 152 = .ok (.invokevirtual 103, 3) := by decide +kernel
theorem dX1_performOn_155 : decode cX1_performOn 155 = .ok (.pop, 1) := by decide +kernel
theorem dX1_performOn_156 : decode cX1_performOn 156 = .ok (.iconst 1, 1) := by decide +kernel
theorem dX1_performOn_157 : decode cX1_performOn 157 = .ok (.ireturn, 1) := by decide +kernel
theorem dX1_performOn_158 : decode cX1_performOn 158 = .ok (.iconst 0, 1) := by decide +kernel
theorem dX1_performOn_159 : decode cX1_performOn 159 = .ok (.ireturn, 1) := by decide +kernel
theorem dX1_joinOn_0 : decode cX1_joinOn 0 = .ok (.aload_n 1, 1) := by decide +kernel
theorem dX1_joinOn_1 : decode cX1_joinOn 1 = .ok (.aload_n 0, 1) := by decide +kernel
theorem dX1_joinOn_2 : decode cX1_joinOn 2 = .ok (.getfield 41, 3) := by decide +kernel
theorem dX1_joinOn_5 : decode cX1_joinOn 5 = .ok (.invokevirtual 107, 3) := by decide +kernel
theorem dX1_joinOn_8 : decode cX1_joinOn 8 = .ok (.ifCond .ne 5, 3) := by decide +kernel
theorem dX1_joinOn_11 : decode cX1_joinOn 11 = .ok (.iconst 0, 1) := by decide +kernel
theorem dX1_joinOn_12 : decode cX1_joinOn 12 = .ok (.ireturn, 1) := by decide +kernel
theorem dX1_joinOn_13 : decode cX1_joinOn 13 = .ok (.aload_n 1, 1) := by decide +kernel
theorem dX1_joinOn_14 : decode cX1_joinOn 14 = .ok (.aload_n 0, 1) := by decide +kernel
theorem dX1_joinOn_15 : decode cX1_joinOn 15 = .ok (.getfield 41, 3) := by decide +kernel
theorem dX1_joinOn_18 : decode cX1_joinOn 18 = .ok (.aload_n 0, 1) := by decide +kernel
theorem dX1_joinOn_19 : decode cX1_joinOn 19 = .ok (.getfield 49, 3) := by decide +kernel
theorem dX1_joinOn_22 : decode cX1_joinOn 22 = .ok (.aload_n 0, 1) := by decide +kernel
theorem dX1_joinOn_23 : decode cX1_joinOn 23 = .ok (.getfield 52, 3) := by decide +kernel
theorem dX1_joinOn_26 : decode cX1_joinOn 26 = .ok (.iconst 0, 1) := by decide +kernel
theorem dX1_joinOn_27 : decode cX1_joinOn 27 = .ok (.invokevirtual 111, 3) := by decide +kernel
theorem dX1_joinOn_30 : decode cX1_joinOn 30 = .ok (.pop, 1) := by decide +kernel
theorem dX1_joinOn_31 : decode cX1_joinOn 31 = .ok (.iconst 1, 1) := by decide +kernel
theorem dX1_joinOn_32 : decode cX1_joinOn 32 = .ok (.ireturn, 1) := by decide +kernel
theorem dX1_buyOn_0 : decode cX1_buyOn 0 = .ok (.aload_n 1, 1) := by decide +kernel
theorem dX1_buyOn_1 : decode cX1_buyOn 1 = .ok (.aload_n 0, 1) := by decide +kernel
theorem dX1_buyOn_2 : decode cX1_buyOn 2 = .ok (.getfield 49, 3) := by decide +kernel
theorem dX1_buyOn_5 : decode cX1_buyOn 5 = .ok (.invokevirtual 115, 3) := by decide +kernel
theorem dX1_buyOn_8 : decode cX1_buyOn 8 = .ok (.astore_n 3, 1) := by decide +kernel
theorem dX1_buyOn_9 : decode cX1_buyOn 9 = .ok (.aload_n 2, 1) := by decide +kernel
theorem dX1_buyOn_10 : decode cX1_buyOn 10 = .ok (.ifnull 31, 3) := by decide +kernel
theorem dX1_buyOn_13 : decode cX1_buyOn 13 = .ok (.aload_n 3, 1) := by decide +kernel
theorem dX1_buyOn_14 : decode cX1_buyOn 14 = .ok (.ifnull 27, 3) := by decide +kernel
theorem dX1_buyOn_17 : decode cX1_buyOn 17 = .ok (.aload_n 3, 1) := by decide +kernel
theorem dX1_buyOn_18 : decode cX1_buyOn 18 = .ok (.aload_n 0, 1) := by decide +kernel
theorem dX1_buyOn_19 : decode cX1_buyOn 19 = .ok (.getfield 59, 3) := by decide +kernel
theorem dX1_buyOn_22 : decode cX1_buyOn 22 = .ok (.invokevirtual 119, 3) := by decide +kernel
theorem dX1_buyOn_25 : decode cX1_buyOn 25 = .ok (.ifCond .eq 16, 3) := by decide +kernel
theorem dX1_buyOn_28 : decode cX1_buyOn 28 = .ok (.aload_n 1, 1) := by decide +kernel
theorem dX1_buyOn_29 : decode cX1_buyOn 29 = .ok (.aload_n 2, 1) := by decide +kernel
theorem dX1_buyOn_30 : decode cX1_buyOn 30 = .ok (.aload_n 3, 1) := by decide +kernel
theorem dX1_buyOn_31 : decode cX1_buyOn 31 = .ok (.aload_n 0, 1) := by decide +kernel
theorem dX1_buyOn_32 : decode cX1_buyOn 32 = .ok (.getfield 59, 3) := by decide +kernel
theorem dX1_buyOn_35 : decode cX1_buyOn 35 = .ok (.invokevirtual 124, 3) := by decide +kernel
theorem dX1_buyOn_38 : decode cX1_buyOn 38 = .ok (.ifCond .eq 5, 3) := by decide +kernel
theorem dX1_buyOn_41 : decode cX1_buyOn 41 = .ok (.iconst 0, 1) := by decide +kernel
theorem dX1_buyOn_42 : decode cX1_buyOn 42 = .ok (.ireturn, 1) := by decide +kernel
theorem dX1_buyOn_43 : decode cX1_buyOn 43 = .ok (.aload_n 1, 1) := by decide +kernel
theorem dX1_buyOn_44 : decode cX1_buyOn 44 = .ok (.aload_n 2, 1) := by decide +kernel
theorem dX1_buyOn_45 : decode cX1_buyOn 45 = .ok (.aload_n 3, 1) := by decide +kernel
theorem dX1_buyOn_46 : decode cX1_buyOn 46 = .ok (.aload_n 0, 1) := by decide +kernel
theorem dX1_buyOn_47 : decode cX1_buyOn 47 = .ok (.getfield 59, 3) := by decide +kernel
theorem dX1_buyOn_50 : decode cX1_buyOn 50 = .ok (.invokevirtual 128, 3) := by decide +kernel
theorem dX1_buyOn_53 : decode cX1_buyOn 53 = .ok (.pop, 1) := by decide +kernel
theorem dX1_buyOn_54 : decode cX1_buyOn 54 = .ok (.iconst 1, 1) := by decide +kernel
theorem dX1_buyOn_55 : decode cX1_buyOn 55 = .ok (.ireturn, 1) := by decide +kernel
theorem dX1_leaveOn_0 : decode cX1_leaveOn 0 = .ok (.aload_n 1, 1) := by decide +kernel
theorem dX1_leaveOn_1 : decode cX1_leaveOn 1 = .ok (.ifnull 10, 3) := by decide +kernel
theorem dX1_leaveOn_4 : decode cX1_leaveOn 4 = .ok (.aload_n 1, 1) := by decide +kernel
theorem dX1_leaveOn_5 : decode cX1_leaveOn 5 = .ok (.invokevirtual 131, 3) := by decide +kernel
theorem dX1_leaveOn_8 : decode cX1_leaveOn 8 = .ok (.ifCond .ne 5, 3) := by decide +kernel
theorem dX1_leaveOn_11 : decode cX1_leaveOn 11 = .ok (.iconst 0, 1) := by decide +kernel
theorem dX1_leaveOn_12 : decode cX1_leaveOn 12 = .ok (.ireturn, 1) := by decide +kernel
theorem dX1_leaveOn_13 : decode cX1_leaveOn 13 = .ok (.aload_n 0, 1) := by decide +kernel
theorem dX1_leaveOn_14 : decode cX1_leaveOn 14 = .ok (.aload_n 1, 1) := by decide +kernel
theorem dX1_leaveOn_15 : decode cX1_leaveOn 15 = .ok (.invokevirtual 137, 3) := by decide +kernel
theorem dX1_leaveOn_18 : decode cX1_leaveOn 18 = .ok (.iconst 1, 1) := by decide +kernel
theorem dX1_leaveOn_19 : decode cX1_leaveOn 19 = .ok (.ireturn, 1) := by decide +kernel
theorem dX1_sellOn_0 : decode cX1_sellOn 0 = .ok (.aload_n 2, 1) := by decide +kernel
theorem dX1_sellOn_1 : decode cX1_sellOn 1 = .ok (.ifnull 20, 3) := by decide +kernel
theorem dX1_sellOn_4 : decode cX1_sellOn 4 = .ok (.aload_n 3, 1) := by decide +kernel
theorem dX1_sellOn_5 : decode cX1_sellOn 5 = .ok (.ifnull 16, 3) := by decide +kernel
theorem dX1_sellOn_8 : decode cX1_sellOn 8 = .ok (.aload_n 1, 1) := by decide +kernel
theorem dX1_sellOn_9 : decode cX1_sellOn 9 = .ok (.aload_n 2, 1) := by decide +kernel
theorem dX1_sellOn_10 : decode cX1_sellOn 10 = .ok (.aload_n 3, 1) := by decide +kernel
theorem dX1_sellOn_11 : decode cX1_sellOn 11 = .ok (.aload_n 0, 1) := by decide +kernel
theorem dX1_sellOn_12 : decode cX1_sellOn 12 = .ok (.getfield 49, 3) := by decide +kernel
theorem dX1_sellOn_15 : decode cX1_sellOn 15 = .ok (.invokevirtual 141, 3) := by decide +kernel
theorem dX1_sellOn_18 : decode cX1_sellOn 18 = .ok (.ifCond .eq 5, 3) := by decide +kernel
theorem dX1_sellOn_21 : decode cX1_sellOn 21 = .ok (.iconst 0, 1) := by decide +kernel
theorem dX1_sellOn_22 : decode cX1_sellOn 22 = .ok (.ireturn, 1) := by decide +kernel
theorem dX1_sellOn_23 : decode cX1_sellOn 23 = .ok (.aload_n 1, 1) := by decide +kernel
theorem dX1_sellOn_24 : decode cX1_sellOn 24 = .ok (.aload_n 2, 1) := by decide +kernel
theorem dX1_sellOn_25 : decode cX1_sellOn 25 = .ok (.aload_n 3, 1) := by decide +kernel
theorem dX1_sellOn_26 : decode cX1_sellOn 26 = .ok (.aload_n 0, 1) := by decide +kernel
theorem dX1_sellOn_27 : decode cX1_sellOn 27 = .ok (.getfield 49, 3) := by decide +kernel
theorem dX1_sellOn_30 : decode cX1_sellOn 30 = .ok (.invokevirtual 145, 3) := by decide +kernel
theorem dX1_sellOn_33 : decode cX1_sellOn 33 = .ok (.pop, 1) := by decide +kernel
theorem dX1_sellOn_34 : decode cX1_sellOn 34 = .ok (.iconst 1, 1) := by decide +kernel
theorem dX1_sellOn_35 : decode cX1_sellOn 35 = .ok (.ireturn, 1) := by decide +kernel
theorem dX1_swapOn_0 : decode cX1_swapOn 0 = .ok (.aload_n 1, 1) := by decide +kernel
theorem dX1_swapOn_1 : decode cX1_swapOn 1 = .ok (.ifnull 16, 3) := by decide +kernel
theorem dX1_swapOn_4 : decode cX1_swapOn 4 = .ok (.aload_n 2, 1) := by decide +kernel
theorem dX1_swapOn_5 : decode cX1_swapOn 5 = .ok (.ifnull 12, 3) := by decide +kernel
theorem dX1_swapOn_8 : decode cX1_swapOn 8 = .ok (.aload_n 0, 1) := by decide +kernel
theorem dX1_swapOn_9 : decode cX1_swapOn 9 = .ok (.aload_n 1, 1) := by decide +kernel
theorem dX1_swapOn_10 : decode cX1_swapOn 10 = .ok (.aload_n 2, 1) := by decide +kernel
theorem dX1_swapOn_11 : decode cX1_swapOn 11 = .ok (.invokevirtual 148, 3) := by decide +kernel
theorem dX1_swapOn_14 : decode cX1_swapOn 14 = .ok (.ifCond .eq 5, 3) := by decide +kernel
theorem dX1_swapOn_17 : decode cX1_swapOn 17 = .ok (.iconst 0, 1) := by decide +kernel
theorem dX1_swapOn_18 : decode cX1_swapOn 18 = .ok (.ireturn, 1) := by decide +kernel
theorem dX1_swapOn_19 : decode cX1_swapOn 19 = .ok (.aload_n 0, 1) := by decide +kernel
theorem dX1_swapOn_20 : decode cX1_swapOn 20 = .ok (.aload_n 1, 1) := by decide +kernel
theorem dX1_swapOn_21 : decode cX1_swapOn 21 = .ok (.aload_n 2, 1) := by decide +kernel
theorem dX1_swapOn_22 : decode cX1_swapOn 22 = .ok (.invokevirtual 152, 3) := by decide +kernel
theorem dX1_swapOn_25 : decode cX1_swapOn 25 = .ok (.pop, 1) := by decide +kernel
theorem dX1_swapOn_26 : decode cX1_swapOn 26 = .ok (.iconst 1, 1) := by decide +kernel
theorem dX1_swapOn_27 : decode cX1_swapOn 27 = .ok (.ireturn, 1) := by decide +kernel
theorem dX2_init_0 : decode cX2_init 0 = .ok (.aload_n 0, 1) := by decide +kernel
theorem dX2_init_1 : decode cX2_init 1 = .ok (.invokespecial 3, 3) := by decide +kernel
theorem dX2_init_4 : decode cX2_init 4 = .ok (.aload_n 0, 1) := by decide +kernel
theorem dX2_init_5 : decode cX2_init 5 = .ok (.bipush 12, 2) := by decide +kernel
theorem dX2_init_7 : decode cX2_init 7 = .ok (.newarray .int, 2) := by decide +kernel
theorem dX2_init_9 : decode cX2_init 9 = .ok (.putfield 9, 3) := by decide +kernel
theorem dX2_init_12 : decode cX2_init 12 = .ok (.aload_n 0, 1) := by decide +kernel
theorem dX2_init_13 : decode cX2_init 13 = .ok (.bipush 12, 2) := by decide +kernel
theorem dX2_init_15 : decode cX2_init 15 = .ok (.newarray .int, 2) := by decide +kernel
theorem dX2_init_17 : decode cX2_init 17 = .ok (.putfield 15, 3) := by decide +kernel
theorem dX2_init_20 : decode cX2_init 20 = .ok (.aload_n 0, 1) := by decide +kernel
theorem dX2_init_21 : decode cX2_init 21 = .ok (.bipush 12, 2) := by decide +kernel
theorem dX2_init_23 : decode cX2_init 23 = .ok (.newarray .int, 2) := by decide +kernel
theorem dX2_init_25 : decode cX2_init 25 = .ok (.putfield 18, 3) := by decide +kernel
theorem dX2_init_28 : decode cX2_init 28 = .ok (.return_, 1) := by decide +kernel
theorem dX2_add_0 : decode cX2_add 0 = .ok (.bipush 11, 2) := by decide +kernel
theorem dX2_add_2 : decode cX2_add 2 = .ok (.istore 4, 2) := by decide +kernel
theorem dX2_add_4 : decode cX2_add 4 = .ok (.iload 4, 2) := by decide +kernel
theorem dX2_add_6 : decode cX2_add 6 = .ok (.ifCond .le 57, 3) := by decide +kernel
theorem dX2_add_9 : decode cX2_add 9 = .ok (.aload_n 0, 1) := by decide +kernel
theorem dX2_add_10 : decode cX2_add 10 = .ok (.getfield 9, 3) := by decide +kernel
theorem dX2_add_13 : decode cX2_add 13 = .ok (.iload 4, 2) := by decide +kernel
theorem dX2_add_15 : decode cX2_add 15 = .ok (.aload_n 0, 1) := by decide +kernel
theorem dX2_add_16 : decode cX2_add 16 = .ok (.getfield 9, 3) := by decide +kernel
theorem dX2_add_19 : decode cX2_add 19 = .ok (.iload 4, 2) := by decide +kernel
theorem dX2_add_21 : decode cX2_add 21 = .ok (.iconst 1, 1) := by decide +kernel
theorem dX2_add_22 : decode cX2_add 22 = .ok (.isub, 1) := by decide +kernel
theorem dX2_add_23 : decode cX2_add 23 = .ok (.iaload, 1) := by decide +kernel
theorem dX2_add_24 : decode cX2_add 24 = .ok (.iastore, 1) := by decide +kernel
theorem dX2_add_25 : decode cX2_add 25 = .ok (.aload_n 0, 1) := by decide +kernel
theorem dX2_add_26 : decode cX2_add 26 = .ok (.getfield 15, 3) := by decide +kernel
theorem dX2_add_29 : decode cX2_add 29 = .ok (.iload 4, 2) := by decide +kernel
theorem dX2_add_31 : decode cX2_add 31 = .ok (.aload_n 0, 1) := by decide +kernel
theorem dX2_add_32 : decode cX2_add 32 = .ok (.getfield 15, 3) := by decide +kernel
theorem dX2_add_35 : decode cX2_add 35 = .ok (.iload 4, 2) := by decide +kernel
theorem dX2_add_37 : decode cX2_add 37 = .ok (.iconst 1, 1) := by decide +kernel
theorem dX2_add_38 : decode cX2_add 38 = .ok (.isub, 1) := by decide +kernel
theorem dX2_add_39 : decode cX2_add 39 = .ok (.iaload, 1) := by decide +kernel
theorem dX2_add_40 : decode cX2_add 40 = .ok (.iastore, 1) := by decide +kernel
theorem dX2_add_41 : decode cX2_add 41 = .ok (.aload_n 0, 1) := by decide +kernel
theorem dX2_add_42 : decode cX2_add 42 = .ok (.getfield 18, 3) := by decide +kernel
theorem dX2_add_45 : decode cX2_add 45 = .ok (.iload 4, 2) := by decide +kernel
theorem dX2_add_47 : decode cX2_add 47 = .ok (.aload_n 0, 1) := by decide +kernel
theorem dX2_add_48 : decode cX2_add 48 = .ok (.getfield 18, 3) := by decide +kernel
theorem dX2_add_51 : decode cX2_add 51 = .ok (.iload 4, 2) := by decide +kernel
theorem dX2_add_53 : decode cX2_add 53 = .ok (.iconst 1, 1) := by decide +kernel
theorem dX2_add_54 : decode cX2_add 54 = .ok (.isub, 1) := by decide +kernel
theorem dX2_add_55 : decode cX2_add 55 = .ok (.iaload, 1) := by decide +kernel
theorem dX2_add_56 : decode cX2_add 56 = .ok (.iastore, 1) := by decide +kernel
theorem dX2_add_57 : decode cX2_add 57 = .ok (.iinc 4 (-1), 3) := by decide +kernel
theorem dX2_add_60 : decode cX2_add 60 = .ok (.goto (-56), 3) := by decide +kernel
theorem dX2_add_63 : decode cX2_add 63 = .ok (.aload_n 0, 1) := by decide +kernel
theorem dX2_add_64 : decode cX2_add 64 = .ok (.getfield 9, 3) := by decide +kernel
theorem dX2_add_67 : decode cX2_add 67 = .ok (.iconst 0, 1) := by decide +kernel
theorem dX2_add_68 : decode cX2_add 68 = .ok (.iload_n 1, 1) := by decide +kernel
theorem dX2_add_69 : decode cX2_add 69 = .ok (.iastore, 1) := by decide +kernel
theorem dX2_add_70 : decode cX2_add 70 = .ok (.aload_n 0, 1) := by decide +kernel
theorem dX2_add_71 : decode cX2_add 71 = .ok (.getfield 15, 3) := by decide +kernel
theorem dX2_add_74 : decode cX2_add 74 = .ok (.iconst 0, 1) := by decide +kernel
theorem dX2_add_75 : decode cX2_add 75 = .ok (.iload_n 2, 1) := by decide +kernel
theorem dX2_add_76 : decode cX2_add 76 = .ok (.iastore, 1) := by decide +kernel
theorem dX2_add_77 : decode cX2_add 77 = .ok (.aload_n 0, 1) := by decide +kernel
theorem dX2_add_78 : decode cX2_add 78 = .ok (.getfield 18, 3) := by decide +kernel
theorem dX2_add_81 : decode cX2_add 81 = .ok (.iconst 0, 1) := by decide +kernel
theorem dX2_add_82 : decode cX2_add 82 = .ok (.iload_n 3, 1) := by decide +kernel
theorem dX2_add_83 : decode cX2_add 83 = .ok (.iastore, 1) := by decide +kernel
theorem dX2_add_84 : decode cX2_add 84 = .ok (.aload_n 0, 1) := by decide +kernel
theorem dX2_add_85 : decode cX2_add 85 = .ok (.aload_n 0, 1) := by decide +kernel
theorem dX2_add_86 : decode cX2_add 86 = .ok (.getfield 21, 3) := by decide +kernel
theorem dX2_add_89 : decode cX2_add 89 = .ok (.iconst 1, 1) := by decide +kernel
theorem dX2_add_90 : decode cX2_add 90 = .ok (.iadd, 1) := by decide +kernel
theorem dX2_add_91 : decode cX2_add 91 = .ok (.bipush 12, 2) := by decide +kernel
theorem dX2_add_93 : decode cX2_add 93 = .ok (.invokestatic 25, 3) := by decide +kernel
theorem dX2_add_96 : decode cX2_add 96 = .ok (.putfield 21, 3) := by decide +kernel
theorem dX2_add_99 : decode cX2_add 99 = .ok (.return_, 1) := by decide +kernel
theorem dX2_kindAt_0 : decode cX2_kindAt 0 = .ok (.aload_n 0, 1) := by decide +kernel
theorem dX2_kindAt_1 : decode cX2_kindAt 1 = .ok (.iload_n 1, 1) := by decide +kernel
theorem dX2_kindAt_2 : decode cX2_kindAt 2 = .ok (.invokevirtual 31, 3) := by decide +kernel
theorem dX2_kindAt_5 : decode cX2_kindAt 5 = .ok (.ifCond .eq 12, 3) := by decide +kernel
theorem dX2_kindAt_8 : decode cX2_kindAt 8 = .ok (.aload_n 0, 1) := by decide +kernel
theorem dX2_kindAt_9 : decode cX2_kindAt 9 = .ok (.getfield 9, 3) := by decide +kernel
theorem dX2_kindAt_12 : decode cX2_kindAt 12 = .ok (.iload_n 1, 1) := by decide +kernel
theorem dX2_kindAt_13 : decode cX2_kindAt 13 = .ok (.iaload, 1) := by decide +kernel
theorem dX2_kindAt_14 : decode cX2_kindAt 14 = .ok (.goto 4, 3) := by decide +kernel
theorem dX2_kindAt_17 : decode cX2_kindAt 17 = .ok (.iconst (-1), 1) := by decide +kernel
theorem dX2_kindAt_18 : decode cX2_kindAt 18 = .ok (.ireturn, 1) := by decide +kernel
theorem dX2_traderAt_0 : decode cX2_traderAt 0 = .ok (.aload_n 0, 1) := by decide +kernel
theorem dX2_traderAt_1 : decode cX2_traderAt 1 = .ok (.iload_n 1, 1) := by decide +kernel
theorem dX2_traderAt_2 : decode cX2_traderAt 2 = .ok (.invokevirtual 31, 3) := by decide +kernel
theorem dX2_traderAt_5 : decode cX2_traderAt 5 = .ok (.ifCond .eq 12, 3) := by decide +kernel
theorem dX2_traderAt_8 : decode cX2_traderAt 8 = .ok (.aload_n 0, 1) := by decide +kernel
theorem dX2_traderAt_9 : decode cX2_traderAt 9 = .ok (.getfield 15, 3) := by decide +kernel
theorem dX2_traderAt_12 : decode cX2_traderAt 12 = .ok (.iload_n 1, 1) := by decide +kernel
theorem dX2_traderAt_13 : decode cX2_traderAt 13 = .ok (.iaload, 1) := by decide +kernel
theorem dX2_traderAt_14 : decode cX2_traderAt 14 = .ok (.goto 4, 3) := by decide +kernel
theorem dX2_traderAt_17 : decode cX2_traderAt 17 = .ok (.iconst (-1), 1) := by decide +kernel
theorem dX2_traderAt_18 : decode cX2_traderAt 18 = .ok (.ireturn, 1) := by decide +kernel
theorem dX2_dayAt_0 : decode cX2_dayAt 0 = .ok (.aload_n 0, 1) := by decide +kernel
theorem dX2_dayAt_1 : decode cX2_dayAt 1 = .ok (.iload_n 1, 1) := by decide +kernel
theorem dX2_dayAt_2 : decode cX2_dayAt 2 = .ok (.invokevirtual 31, 3) := by decide +kernel
theorem dX2_dayAt_5 : decode cX2_dayAt 5 = .ok (.ifCond .eq 12, 3) := by decide +kernel
theorem dX2_dayAt_8 : decode cX2_dayAt 8 = .ok (.aload_n 0, 1) := by decide +kernel
theorem dX2_dayAt_9 : decode cX2_dayAt 9 = .ok (.getfield 18, 3) := by decide +kernel
theorem dX2_dayAt_12 : decode cX2_dayAt 12 = .ok (.iload_n 1, 1) := by decide +kernel
theorem dX2_dayAt_13 : decode cX2_dayAt 13 = .ok (.iaload, 1) := by decide +kernel
theorem dX2_dayAt_14 : decode cX2_dayAt 14 = .ok (.goto 4, 3) := by decide +kernel
theorem dX2_dayAt_17 : decode cX2_dayAt 17 = .ok (.iconst (-1), 1) := by decide +kernel
theorem dX2_dayAt_18 : decode cX2_dayAt 18 = .ok (.ireturn, 1) := by decide +kernel
theorem dX2_hasEvent_0 : decode cX2_hasEvent 0 = .ok (.iload_n 1, 1) := by decide +kernel
theorem dX2_hasEvent_1 : decode cX2_hasEvent 1 = .ok (.ifCond .lt 21, 3) := by decide +kernel
theorem dX2_hasEvent_4 : decode cX2_hasEvent 4 = .ok (.iload_n 1, 1) := by decide +kernel
theorem dX2_hasEvent_5 : decode cX2_hasEvent 5 = .ok (.aload_n 0, 1) := by decide +kernel
theorem dX2_hasEvent_6 : decode cX2_hasEvent 6 = .ok (.getfield 21, 3) := by decide +kernel
theorem dX2_hasEvent_9 : decode cX2_hasEvent 9 = .ok (.if_icmp .ge 13, 3) := by decide +kernel
theorem dX2_hasEvent_12 : decode cX2_hasEvent 12 = .ok (.iload_n 1, 1) := by decide +kernel
theorem dX2_hasEvent_13 : decode cX2_hasEvent 13 = .ok (.bipush 12, 2) := by decide +kernel
theorem dX2_hasEvent_15 : decode cX2_hasEvent 15 = .ok (.if_icmp .ge 7, 3) := by decide +kernel
theorem dX2_hasEvent_18 : decode cX2_hasEvent 18 = .ok (.iconst 1, 1) := by decide +kernel
theorem dX2_hasEvent_19 : decode cX2_hasEvent 19 = .ok (.goto 4, 3) := by decide +kernel
theorem dX2_hasEvent_22 : decode cX2_hasEvent 22 = .ok (.iconst 0, 1) := by decide +kernel
theorem dX2_hasEvent_23 : decode cX2_hasEvent 23 = .ok (.ireturn, 1) := by decide +kernel
theorem dX2_copyFrom_0 : decode cX2_copyFrom 0 = .ok (.aload_n 0, 1) := by decide +kernel
theorem dX2_copyFrom_1 : decode cX2_copyFrom 1 = .ok (.aload_n 1, 1) := by decide +kernel
theorem dX2_copyFrom_2 : decode cX2_copyFrom 2 = .ok (.getfield 21, 3) := by decide +kernel
theorem dX2_copyFrom_5 : decode cX2_copyFrom 5 = .ok (.putfield 21, 3) := by decide +kernel
theorem dX2_copyFrom_8 : decode cX2_copyFrom 8 = .ok (.aload_n 1, 1) := by decide +kernel
theorem dX2_copyFrom_9 : decode cX2_copyFrom 9 = .ok (.getfield 9, 3) := by decide +kernel
theorem dX2_copyFrom_12 : decode cX2_copyFrom 12 = .ok (.iconst 0, 1) := by decide +kernel
theorem dX2_copyFrom_13 : decode cX2_copyFrom 13 = .ok (.aload_n 0, 1) := by decide +kernel
theorem dX2_copyFrom_14 : decode cX2_copyFrom 14 = .ok (.getfield 9, 3) := by decide +kernel
theorem dX2_copyFrom_17 : decode cX2_copyFrom 17 = .ok (.iconst 0, 1) := by decide +kernel
theorem dX2_copyFrom_18 : decode cX2_copyFrom 18 = .ok (.aload_n 0, 1) := by decide +kernel
theorem dX2_copyFrom_19 : decode cX2_copyFrom 19 = .ok (.getfield 9, 3) := by decide +kernel
theorem dX2_copyFrom_22 : decode cX2_copyFrom 22 = .ok (.arraylength, 1) := by decide +kernel
theorem dX2_copyFrom_23 : decode cX2_copyFrom 23 = .ok (.invokestatic 35, 3) := by decide +kernel
theorem dX2_copyFrom_26 : decode cX2_copyFrom 26 = .ok (.aload_n 1, 1) := by decide +kernel
theorem dX2_copyFrom_27 : decode cX2_copyFrom 27 = .ok (.getfield 15, 3) := by decide +kernel
theorem dX2_copyFrom_30 : decode cX2_copyFrom 30 = .ok (.iconst 0, 1) := by decide +kernel
theorem dX2_copyFrom_31 : decode cX2_copyFrom 31 = .ok (.aload_n 0, 1) := by decide +kernel
theorem dX2_copyFrom_32 : decode cX2_copyFrom 32 = .ok (.getfield 15, 3) := by decide +kernel
theorem dX2_copyFrom_35 : decode cX2_copyFrom 35 = .ok (.iconst 0, 1) := by decide +kernel
theorem dX2_copyFrom_36 : decode cX2_copyFrom 36 = .ok (.aload_n 0, 1) := by decide +kernel
theorem dX2_copyFrom_37 : decode cX2_copyFrom 37 = .ok (.getfield 15, 3) := by decide +kernel
theorem dX2_copyFrom_40 : decode cX2_copyFrom 40 = .ok (.arraylength, 1) := by decide +kernel
theorem dX2_copyFrom_41 : decode cX2_copyFrom 41 = .ok (.invokestatic 35, 3) := by decide +kernel
theorem dX2_copyFrom_44 : decode cX2_copyFrom 44 = .ok (.aload_n 1, 1) := by decide +kernel
theorem dX2_copyFrom_45 : decode cX2_copyFrom 45 = .ok (.getfield 18, 3) := by decide +kernel
theorem dX2_copyFrom_48 : decode cX2_copyFrom 48 = .ok (.iconst 0, 1) := by decide +kernel
theorem dX2_copyFrom_49 : decode cX2_copyFrom 49 = .ok (.aload_n 0, 1) := by decide +kernel
theorem dX2_copyFrom_50 : decode cX2_copyFrom 50 = .ok (.getfield 18, 3) := by decide +kernel
theorem dX2_copyFrom_53 : decode cX2_copyFrom 53 = .ok (.iconst 0, 1) := by decide +kernel
theorem dX2_copyFrom_54 : decode cX2_copyFrom 54 = .ok (.aload_n 0, 1) := by decide +kernel
theorem dX2_copyFrom_55 : decode cX2_copyFrom 55 = .ok (.getfield 18, 3) := by decide +kernel
theorem dX2_copyFrom_58 : decode cX2_copyFrom 58 = .ok (.arraylength, 1) := by decide +kernel
theorem dX2_copyFrom_59 : decode cX2_copyFrom 59 = .ok (.invokestatic 35, 3) := by decide +kernel
theorem dX2_copyFrom_62 : decode cX2_copyFrom 62 = .ok (.return_, 1) := by decide +kernel
theorem dX3_init_0 : decode cX3_init 0 = .ok (.aload_n 0, 1) := by decide +kernel
theorem dX3_init_1 : decode cX3_init 1 = .ok (.invokespecial 3, 3) := by decide +kernel
theorem dX3_init_4 : decode cX3_init 4 = .ok (.aload_n 0, 1) := by decide +kernel
theorem dX3_init_5 : decode cX3_init 5 = .ok (.bipush 8, 2) := by decide +kernel
theorem dX3_init_7 : decode cX3_init 7 = .ok (.anewarray 9, 3) := by decide +kernel
theorem dX3_init_10 : decode cX3_init 10 = .ok (.putfield 11, 3) := by decide +kernel
theorem dX3_init_13 : decode cX3_init 13 = .ok (.iconst 0, 1) := by decide +kernel
theorem dX3_init_14 : decode cX3_init 14 = .ok (.istore_n 1, 1) := by decide +kernel
theorem dX3_init_15 : decode cX3_init 15 = .ok (.iload_n 1, 1) := by decide +kernel
theorem dX3_init_16 : decode cX3_init 16 = .ok (.aload_n 0, 1) := by decide +kernel
theorem dX3_init_17 : decode cX3_init 17 = .ok (.getfield 11, 3) := by decide +kernel
theorem dX3_init_20 : decode cX3_init 20 = .ok (.arraylength, 1) := by decide +kernel
theorem dX3_init_21 : decode cX3_init 21 = .ok (.if_icmp .ge 22, 3) := by decide +kernel
theorem dX3_init_24 : decode cX3_init 24 = .ok (.aload_n 0, 1) := by decide +kernel
theorem dX3_init_25 : decode cX3_init 25 = .ok (.getfield 11, 3) := by decide +kernel
theorem dX3_init_28 : decode cX3_init 28 = .ok (.iload_n 1, 1) := by decide +kernel
theorem dX3_init_29 : decode cX3_init 29 = .ok (.new 9, 3) := by decide +kernel
theorem dX3_init_32 : decode cX3_init 32 = .ok (.dup, 1) := by decide +kernel
theorem dX3_init_33 : decode cX3_init 33 = .ok (.invokespecial 17, 3) := by decide +kernel
theorem dX3_init_36 : decode cX3_init 36 = .ok (.aastore, 1) := by decide +kernel
theorem dX3_init_37 : decode cX3_init 37 = .ok (.iinc 1 1, 3) := by decide +kernel
theorem dX3_init_40 : decode cX3_init 40 = .ok (.goto (-25), 3) := by decide +kernel
theorem dX3_init_43 : decode cX3_init 43 = .ok (.return_, 1) := by decide +kernel
theorem dX3_record_0 : decode cX3_record 0 = .ok (.aload_n 0, 1) := by decide +kernel
theorem dX3_record_1 : decode cX3_record 1 = .ok (.getfield 11, 3) := by decide +kernel
theorem dX3_record_4 : decode cX3_record 4 = .ok (.aload_n 0, 1) := by decide +kernel
theorem dX3_record_5 : decode cX3_record 5 = .ok (.getfield 18, 3) := by decide +kernel
theorem dX3_record_8 : decode cX3_record 8 = .ok (.aaload, 1) := by decide +kernel
theorem dX3_record_9 : decode cX3_record 9 = .ok (.aload_n 1, 1) := by decide +kernel
theorem dX3_record_10 : decode cX3_record 10 = .ok (.invokevirtual 22, 3) := by decide +kernel
theorem dX3_record_13 : decode cX3_record 13 = .ok (.aload_n 0, 1) := by decide +kernel
theorem dX3_record_14 : decode cX3_record 14 = .ok (.aload_n 0, 1) := by decide +kernel
theorem dX3_record_15 : decode cX3_record 15 = .ok (.getfield 18, 3) := by decide +kernel
theorem dX3_record_18 : decode cX3_record 18 = .ok (.iconst 1, 1) := by decide +kernel
theorem dX3_record_19 : decode cX3_record 19 = .ok (.iadd, 1) := by decide +kernel
theorem dX3_record_20 : decode cX3_record 20 = .ok (.bipush 8, 2) := by decide +kernel
theorem dX3_record_22 : decode cX3_record 22 = .ok (.irem, 1) := by decide +kernel
theorem dX3_record_23 : decode cX3_record 23 = .ok (.putfield 18, 3) := by decide +kernel
theorem dX3_record_26 : decode cX3_record 26 = .ok (.aload_n 0, 1) := by decide +kernel
theorem dX3_record_27 : decode cX3_record 27 = .ok (.aload_n 0, 1) := by decide +kernel
theorem dX3_record_28 : decode cX3_record 28 = .ok (.getfield 26, 3) := by decide +kernel
theorem dX3_record_31 : decode cX3_record 31 = .ok (.iconst 1, 1) := by decide +kernel
theorem dX3_record_32 : decode cX3_record 32 = .ok (.iadd, 1) := by decide +kernel
theorem dX3_record_33 : decode cX3_record 33 = .ok (.bipush 8, 2) := by decide +kernel
theorem dX3_record_35 : decode cX3_record 35 = .ok (.invokestatic 29, 3) := by decide +kernel
theorem dX3_record_38 : decode cX3_record 38 = .ok (.putfield 26, 3) := by decide +kernel
theorem dX3_record_41 : decode cX3_record 41 = .ok (.return_, 1) := by decide +kernel
theorem dX3_takeBack_0 : decode cX3_takeBack 0 = .ok (.aload_n 0, 1) := by decide +kernel
theorem dX3_takeBack_1 : decode cX3_takeBack 1 = .ok (.aload_n 0, 1) := by decide +kernel
theorem dX3_takeBack_2 : decode cX3_takeBack 2 = .ok (.getfield 18, 3) := by decide +kernel
theorem dX3_takeBack_5 : decode cX3_takeBack 5 = .ok (.bipush 8, 2) := by decide +kernel
theorem dX3_takeBack_7 : decode cX3_takeBack 7 = .ok (.iadd, 1) := by decide +kernel
theorem dX3_takeBack_8 : decode cX3_takeBack 8 = .ok (.iconst 1, 1) := by decide +kernel
theorem dX3_takeBack_9 : decode cX3_takeBack 9 = .ok (.isub, 1) := by decide +kernel
theorem dX3_takeBack_10 : decode cX3_takeBack 10 = .ok (.bipush 8, 2) := by decide +kernel
theorem dX3_takeBack_12 : decode cX3_takeBack 12 = .ok (.irem, 1) := by decide +kernel
theorem dX3_takeBack_13 : decode cX3_takeBack 13 = .ok (.putfield 18, 3) := by decide +kernel
theorem dX3_takeBack_16 : decode cX3_takeBack 16 = .ok (.aload_n 0, 1) := by decide +kernel
theorem dX3_takeBack_17 : decode cX3_takeBack 17 = .ok (.dup, 1) := by decide +kernel
theorem dX3_takeBack_18 : decode cX3_takeBack 18 = .ok (.getfield 26, 3) := by decide +kernel
theorem dX3_takeBack_21 : decode cX3_takeBack 21 = .ok (.iconst 1, 1) := by decide +kernel
theorem dX3_takeBack_22 : decode cX3_takeBack 22 = .ok (.isub, 1) := by decide +kernel
theorem dX3_takeBack_23 : decode cX3_takeBack 23 = .ok (.putfield 26, 3) := by decide +kernel
theorem dX3_takeBack_26 : decode cX3_takeBack 26 = .ok (.aload_n 1, 1) := by decide +kernel
theorem dX3_takeBack_27 : decode cX3_takeBack 27 = .ok (.aload_n 0, 1) := by decide +kernel
theorem dX3_takeBack_28 : decode cX3_takeBack 28 = .ok (.getfield 11, 3) := by decide +kernel
theorem dX3_takeBack_31 : decode cX3_takeBack 31 = .ok (.aload_n 0, 1) := by decide +kernel
theorem dX3_takeBack_32 : decode cX3_takeBack 32 = .ok (.getfield 18, 3) := by decide +kernel
theorem dX3_takeBack_35 : decode cX3_takeBack 35 = .ok (.aaload, 1) := by decide +kernel
theorem dX3_takeBack_36 : decode cX3_takeBack 36 = .ok (.invokevirtual 22, 3) := by decide +kernel
theorem dX3_takeBack_39 : decode cX3_takeBack 39 = .ok (.return_, 1) := by decide +kernel
theorem dX3_forget_0 : decode cX3_forget 0 = .ok (.aload_n 0, 1) := by decide +kernel
theorem dX3_forget_1 : decode cX3_forget 1 = .ok (.iconst 0, 1) := by decide +kernel
theorem dX3_forget_2 : decode cX3_forget 2 = .ok (.putfield 26, 3) := by decide +kernel
theorem dX3_forget_5 : decode cX3_forget 5 = .ok (.return_, 1) := by decide +kernel
theorem dX4_init_0 : decode cX4_init 0 = .ok (.aload_n 0, 1) := by decide +kernel
theorem dX4_init_1 : decode cX4_init 1 = .ok (.invokespecial 3, 3) := by decide +kernel
theorem dX4_init_4 : decode cX4_init 4 = .ok (.aload_n 0, 1) := by decide +kernel
theorem dX4_init_5 : decode cX4_init 5 = .ok (.iconst 5, 1) := by decide +kernel
theorem dX4_init_6 : decode cX4_init 6 = .ok (.anewarray 9, 3) := by decide +kernel
theorem dX4_init_9 : decode cX4_init 9 = .ok (.putfield 11, 3) := by decide +kernel
theorem dX4_init_12 : decode cX4_init 12 = .ok (.aload_n 0, 1) := by decide +kernel
theorem dX4_init_13 : decode cX4_init 13 = .ok (.bipush 24, 2) := by decide +kernel
theorem dX4_init_15 : decode cX4_init 15 = .ok (.anewarray 17, 3) := by decide +kernel
theorem dX4_init_18 : decode cX4_init 18 = .ok (.putfield 19, 3) := by decide +kernel
theorem dX4_init_21 : decode cX4_init 21 = .ok (.aload_n 0, 1) := by decide +kernel
theorem dX4_init_22 : decode cX4_init 22 = .ok (.new 23, 3) := by decide +kernel
theorem dX4_init_25 : decode cX4_init 25 = .ok (.dup, 1) := by decide +kernel
theorem dX4_init_26 : decode cX4_init 26 = .ok (.invokespecial 25, 3) := by decide +kernel
theorem dX4_init_29 : decode cX4_init 29 = .ok (.putfield 26, 3) := by decide +kernel
theorem dX4_init_32 : decode cX4_init 32 = .ok (.iconst 0, 1) := by decide +kernel
theorem dX4_init_33 : decode cX4_init 33 = .ok (.istore_n 1, 1) := by decide +kernel
theorem dX4_init_34 : decode cX4_init 34 = .ok (.iload_n 1, 1) := by decide +kernel
theorem dX4_init_35 : decode cX4_init 35 = .ok (.aload_n 0, 1) := by decide +kernel
theorem dX4_init_36 : decode cX4_init 36 = .ok (.getfield 11, 3) := by decide +kernel
theorem dX4_init_39 : decode cX4_init 39 = .ok (.arraylength, 1) := by decide +kernel
theorem dX4_init_40 : decode cX4_init 40 = .ok (.if_icmp .ge 23, 3) := by decide +kernel
theorem dX4_init_43 : decode cX4_init 43 = .ok (.aload_n 0, 1) := by decide +kernel
theorem dX4_init_44 : decode cX4_init 44 = .ok (.getfield 11, 3) := by decide +kernel
theorem dX4_init_47 : decode cX4_init 47 = .ok (.iload_n 1, 1) := by decide +kernel
theorem dX4_init_48 : decode cX4_init 48 = .ok (.new 9, 3) := by decide +kernel
theorem dX4_init_51 : decode cX4_init 51 = .ok (.dup, 1) := by decide +kernel
theorem dX4_init_52 : decode cX4_init 52 = .ok (.iload_n 1, 1) := by decide +kernel
theorem dX4_init_53 : decode cX4_init 53 = .ok (.invokespecial 30, 3) := by decide +kernel
theorem dX4_init_56 : decode cX4_init 56 = .ok (.aastore, 1) := by decide +kernel
theorem dX4_init_57 : decode cX4_init 57 = .ok (.iinc 1 1, 3) := by decide +kernel
theorem dX4_init_60 : decode cX4_init 60 = .ok (.goto (-26), 3) := by decide +kernel
theorem dX4_init_63 : decode cX4_init 63 = .ok (.iconst 0, 1) := by decide +kernel
theorem dX4_init_64 : decode cX4_init 64 = .ok (.istore_n 1, 1) := by decide +kernel
theorem dX4_init_65 : decode cX4_init 65 = .ok (.iload_n 1, 1) := by decide +kernel
theorem dX4_init_66 : decode cX4_init 66 = .ok (.aload_n 0, 1) := by decide +kernel
theorem dX4_init_67 : decode cX4_init 67 = .ok (.getfield 19, 3) := by decide +kernel
theorem dX4_init_70 : decode cX4_init 70 = .ok (.arraylength, 1) := by decide +kernel
theorem dX4_init_71 : decode cX4_init 71 = .ok (.if_icmp .ge 23, 3) := by decide +kernel
theorem dX4_init_74 : decode cX4_init 74 = .ok (.aload_n 0, 1) := by decide +kernel
theorem dX4_init_75 : decode cX4_init 75 = .ok (.getfield 19, 3) := by decide +kernel
theorem dX4_init_78 : decode cX4_init 78 = .ok (.iload_n 1, 1) := by decide +kernel
theorem dX4_init_79 : decode cX4_init 79 = .ok (.new 17, 3) := by decide +kernel
theorem dX4_init_82 : decode cX4_init 82 = .ok (.dup, 1) := by decide +kernel
theorem dX4_init_83 : decode cX4_init 83 = .ok (.iload_n 1, 1) := by decide +kernel
theorem dX4_init_84 : decode cX4_init 84 = .ok (.invokespecial 33, 3) := by decide +kernel
theorem dX4_init_87 : decode cX4_init 87 = .ok (.aastore, 1) := by decide +kernel
theorem dX4_init_88 : decode cX4_init 88 = .ok (.iinc 1 1, 3) := by decide +kernel
theorem dX4_init_91 : decode cX4_init 91 = .ok (.goto (-26), 3) := by decide +kernel
theorem dX4_init_94 : decode cX4_init 94 = .ok (.return_, 1) := by decide +kernel
theorem dX4_clear_0 : decode cX4_clear 0 = .ok (.aload_n 0, 1) := by decide +kernel
theorem dX4_clear_1 : decode cX4_clear 1 = .ok (.iconst 0, 1) := by decide +kernel
theorem dX4_clear_2 : decode cX4_clear 2 = .ok (.putfield 34, 3) := by decide +kernel
theorem dX4_clear_5 : decode cX4_clear 5 = .ok (.aload_n 0, 1) := by decide +kernel
theorem dX4_clear_6 : decode cX4_clear 6 = .ok (.iconst 0, 1) := by decide +kernel
theorem dX4_clear_7 : decode cX4_clear 7 = .ok (.putfield 38, 3) := by decide +kernel
theorem dX4_clear_10 : decode cX4_clear 10 = .ok (.aload_n 0, 1) := by decide +kernel
theorem dX4_clear_11 : decode cX4_clear 11 = .ok (.iconst 0, 1) := by decide +kernel
theorem dX4_clear_12 : decode cX4_clear 12 = .ok (.putfield 41, 3) := by decide +kernel
theorem dX4_clear_15 : decode cX4_clear 15 = .ok (.aload_n 0, 1) := by decide +kernel
theorem dX4_clear_16 : decode cX4_clear 16 = .ok (.iconst 0, 1) := by decide +kernel
theorem dX4_clear_17 : decode cX4_clear 17 = .ok (.putfield 44, 3) := by decide +kernel
theorem dX4_clear_20 : decode cX4_clear 20 = .ok (.aload_n 0, 1) := by decide +kernel
theorem dX4_clear_21 : decode cX4_clear 21 = .ok (.iconst 0, 1) := by decide +kernel
theorem dX4_clear_22 : decode cX4_clear 22 = .ok (.putfield 47, 3) := by decide +kernel
theorem dX4_clear_25 : decode cX4_clear 25 = .ok (.aload_n 0, 1) := by decide +kernel
theorem dX4_clear_26 : decode cX4_clear 26 = .ok (.iconst 0, 1) := by decide +kernel
theorem dX4_clear_27 : decode cX4_clear 27 = .ok (.putfield 50, 3) := by decide +kernel
theorem dX4_clear_30 : decode cX4_clear 30 = .ok (.aload_n 0, 1) := by decide +kernel
theorem dX4_clear_31 : decode cX4_clear 31 = .ok (.getfield 26, 3) := by decide +kernel
theorem dX4_clear_34 : decode cX4_clear 34 = .ok (.iconst 0, 1) := by decide +kernel
theorem dX4_clear_35 : decode cX4_clear 35 = .ok (.putfield 53, 3) := by decide +kernel
theorem dX4_clear_38 : decode cX4_clear 38 = .ok (.return_, 1) := by decide +kernel
theorem dX4_copyFrom_0 : decode cX4_copyFrom 0 = .ok (.aload_n 0, 1) := by decide +kernel
theorem dX4_copyFrom_1 : decode cX4_copyFrom 1 = .ok (.aload_n 1, 1) := by decide +kernel
theorem dX4_copyFrom_2 : decode cX4_copyFrom 2 = .ok (.getfield 34, 3) := by decide +kernel
theorem dX4_copyFrom_5 : decode cX4_copyFrom 5 = .ok (.putfield 34, 3) := by decide +kernel
theorem dX4_copyFrom_8 : decode cX4_copyFrom 8 = .ok (.aload_n 0, 1) := by decide +kernel
theorem dX4_copyFrom_9 : decode cX4_copyFrom 9 = .ok (.aload_n 1, 1) := by decide +kernel
theorem dX4_copyFrom_10 : decode cX4_copyFrom 10 = .ok (.getfield 56, 3) := by decide +kernel
theorem dX4_copyFrom_13 : decode cX4_copyFrom 13 = .ok (.putfield 56, 3) := by decide +kernel
theorem dX4_copyFrom_16 : decode cX4_copyFrom 16 = .ok (.aload_n 0, 1) := by decide +kernel
theorem dX4_copyFrom_17 : decode cX4_copyFrom 17 = .ok (.aload_n 1, 1) := by decide +kernel
theorem dX4_copyFrom_18 : decode cX4_copyFrom 18 = .ok (.getfield 59, 3) := by decide +kernel
theorem dX4_copyFrom_21 : decode cX4_copyFrom 21 = .ok (.putfield 59, 3) := by decide +kernel
theorem dX4_copyFrom_24 : decode cX4_copyFrom 24 = .ok (.aload_n 0, 1) := by decide +kernel
theorem dX4_copyFrom_25 : decode cX4_copyFrom 25 = .ok (.aload_n 1, 1) := by decide +kernel
theorem dX4_copyFrom_26 : decode cX4_copyFrom 26 = .ok (.getfield 62, 3) := by decide +kernel
theorem dX4_copyFrom_29 : decode cX4_copyFrom 29 = .ok (.putfield 62, 3) := by decide +kernel
theorem dX4_copyFrom_32 : decode cX4_copyFrom 32 = .ok (.aload_n 0, 1) := by decide +kernel
theorem dX4_copyFrom_33 : decode cX4_copyFrom 33 = .ok (.aload_n 1, 1) := by decide +kernel
theorem dX4_copyFrom_34 : decode cX4_copyFrom 34 = .ok (.getfield 65, 3) := by decide +kernel
theorem dX4_copyFrom_37 : decode cX4_copyFrom 37 = .ok (.putfield 65, 3) := by decide +kernel
theorem dX4_copyFrom_40 : decode cX4_copyFrom 40 = .ok (.aload_n 0, 1) := by decide +kernel
theorem dX4_copyFrom_41 : decode cX4_copyFrom 41 = .ok (.aload_n 1, 1) := by decide +kernel
theorem dX4_copyFrom_42 : decode cX4_copyFrom 42 = .ok (.getfield 68, 3) := by decide +kernel
theorem dX4_copyFrom_45 : decode cX4_copyFrom 45 = .ok (.putfield 68, 3) := by decide +kernel
theorem dX4_copyFrom_48 : decode cX4_copyFrom 48 = .ok (.aload_n 0, 1) := by decide +kernel
theorem dX4_copyFrom_49 : decode cX4_copyFrom 49 = .ok (.aload_n 1, 1) := by decide +kernel
theorem dX4_copyFrom_50 : decode cX4_copyFrom 50 = .ok (.getfield 71, 3) := by decide +kernel
theorem dX4_copyFrom_53 : decode cX4_copyFrom 53 = .ok (.putfield 71, 3) := by decide +kernel
theorem dX4_copyFrom_56 : decode cX4_copyFrom 56 = .ok (.aload_n 0, 1) := by decide +kernel
theorem dX4_copyFrom_57 : decode cX4_copyFrom 57 = .ok (.aload_n 1, 1) := by decide +kernel
theorem dX4_copyFrom_58 : decode cX4_copyFrom 58 = .ok (.getfield 74, 3) := by decide +kernel
theorem dX4_copyFrom_61 : decode cX4_copyFrom 61 = .ok (.putfield 74, 3) := by decide +kernel
theorem dX4_copyFrom_64 : decode cX4_copyFrom 64 = .ok (.aload_n 0, 1) := by decide +kernel
theorem dX4_copyFrom_65 : decode cX4_copyFrom 65 = .ok (.aload_n 1, 1) := by decide +kernel
theorem dX4_copyFrom_66 : decode cX4_copyFrom 66 = .ok (.getfield 38, 3) := by decide +kernel
theorem dX4_copyFrom_69 : decode cX4_copyFrom 69 = .ok (.putfield 38, 3) := by decide +kernel
theorem dX4_copyFrom_72 : decode cX4_copyFrom 72 = .ok (.aload_n 0, 1) := by decide +kernel
theorem dX4_copyFrom_73 : decode cX4_copyFrom 73 = .ok (.aload_n 1, 1) := by decide +kernel
theorem dX4_copyFrom_74 : decode cX4_copyFrom 74 = .ok (.getfield 41, 3) := by decide +kernel
theorem dX4_copyFrom_77 : decode cX4_copyFrom 77 = .ok (.putfield 41, 3) := by decide +kernel
theorem dX4_copyFrom_80 : decode cX4_copyFrom 80 = .ok (.aload_n 0, 1) := by decide +kernel
theorem dX4_copyFrom_81 : decode cX4_copyFrom 81 = .ok (.aload_n 1, 1) := by decide +kernel
theorem dX4_copyFrom_82 : decode cX4_copyFrom 82 = .ok (.getfield 44, 3) := by decide +kernel
theorem dX4_copyFrom_85 : decode cX4_copyFrom 85 = .ok (.putfield 44, 3) := by decide +kernel
theorem dX4_copyFrom_88 : decode cX4_copyFrom 88 = .ok (.aload_n 0, 1) := by decide +kernel
theorem dX4_copyFrom_89 : decode cX4_copyFrom 89 = .ok (.aload_n 1, 1) := by decide +kernel
theorem dX4_copyFrom_90 : decode cX4_copyFrom 90 = .ok (.getfield 47, 3) := by decide +kernel
theorem dX4_copyFrom_93 : decode cX4_copyFrom 93 = .ok (.putfield 47, 3) := by decide +kernel
theorem dX4_copyFrom_96 : decode cX4_copyFrom 96 = .ok (.aload_n 0, 1) := by decide +kernel
theorem dX4_copyFrom_97 : decode cX4_copyFrom 97 = .ok (.aload_n 1, 1) := by decide +kernel
theorem dX4_copyFrom_98 : decode cX4_copyFrom 98 = .ok (.getfield 50, 3) := by decide +kernel
theorem dX4_copyFrom_101 : decode cX4_copyFrom 101 = .ok (.putfield 50, 3) := by decide +kernel
theorem dX4_copyFrom_104 : decode cX4_copyFrom 104 = .ok (.iconst 0, 1) := by decide +kernel
theorem dX4_copyFrom_105 : decode cX4_copyFrom 105 = .ok (.istore_n 2, 1) := by decide +kernel
theorem dX4_copyFrom_106 : decode cX4_copyFrom 106 = .ok (.iload_n 2, 1) := by decide +kernel
theorem dX4_copyFrom_107 : decode cX4_copyFrom 107 = .ok (.aload_n 0, 1) := by decide +kernel
theorem dX4_copyFrom_108 : decode cX4_copyFrom 108 = .ok (.getfield 11, 3) := by decide +kernel
theorem dX4_copyFrom_111 : decode cX4_copyFrom 111 = .ok (.arraylength, 1) := by decide +kernel
theorem dX4_copyFrom_112 : decode cX4_copyFrom 112 = .ok (.if_icmp .ge 24, 3) := by decide +kernel
theorem dX4_copyFrom_115 : decode cX4_copyFrom 115 = .ok (.aload_n 0, 1) := by decide +kernel
theorem dX4_copyFrom_116 : decode cX4_copyFrom 116 = .ok (.getfield 11, 3) := by decide +kernel
theorem dX4_copyFrom_119 : decode cX4_copyFrom 119 = .ok (.iload_n 2, 1) := by decide +kernel
theorem dX4_copyFrom_120 : decode cX4_copyFrom 120 = .ok (.aaload, 1) := by decide +kernel
theorem dX4_copyFrom_121 : decode cX4_copyFrom 121 = .ok (.aload_n 1, 1) := by decide +kernel
theorem dX4_copyFrom_122 : decode cX4_copyFrom 122 = .ok (.getfield 11, 3) := by decide +kernel
theorem dX4_copyFrom_125 : decode cX4_copyFrom 125 = .ok (.iload_n 2, 1) := by decide +kernel
theorem dX4_copyFrom_126 : decode cX4_copyFrom 126 = .ok (.aaload, 1) := by decide +kernel
theorem dX4_copyFrom_127 : decode cX4_copyFrom 127 = .ok (.invokevirtual 77, 3) := by decide +kernel
theorem dX4_copyFrom_130 : decode cX4_copyFrom 130 = .ok (.iinc 2 1, 3) := by decide +kernel
theorem dX4_copyFrom_133 : decode cX4_copyFrom 133 = .ok (.goto (-27), 3) := by decide +kernel
theorem dX4_copyFrom_136 : decode cX4_copyFrom 136 = .ok (.iconst 0, 1) := by decide +kernel
theorem dX4_copyFrom_137 : decode cX4_copyFrom 137 = .ok (.istore_n 2, 1) := by decide +kernel
theorem dX4_copyFrom_138 : decode cX4_copyFrom 138 = .ok (.iload_n 2, 1) := by decide +kernel
theorem dX4_copyFrom_139 : decode cX4_copyFrom 139 = .ok (.aload_n 0, 1) := by decide +kernel
theorem dX4_copyFrom_140 : decode cX4_copyFrom 140 = .ok (.getfield 19, 3) := by decide +kernel
theorem dX4_copyFrom_143 : decode cX4_copyFrom 143 = .ok (.arraylength, 1) := by decide +kernel
theorem dX4_copyFrom_144 : decode cX4_copyFrom 144 = .ok (.if_icmp .ge 24, 3) := by decide +kernel
theorem dX4_copyFrom_147 : decode cX4_copyFrom 147 = .ok (.aload_n 0, 1) := by decide +kernel
theorem dX4_copyFrom_148 : decode cX4_copyFrom 148 = .ok (.getfield 19, 3) := by decide +kernel
theorem dX4_copyFrom_151 : decode cX4_copyFrom 151 = .ok (.iload_n 2, 1) := by decide +kernel
theorem dX4_copyFrom_152 : decode cX4_copyFrom 152 = .ok (.aaload, 1) := by decide +kernel
theorem dX4_copyFrom_153 : decode cX4_copyFrom 153 = .ok (.aload_n 1, 1) := by decide +kernel
theorem dX4_copyFrom_154 : decode cX4_copyFrom 154 = .ok (.getfield 19, 3) := by decide +kernel
theorem dX4_copyFrom_157 : decode cX4_copyFrom 157 = .ok (.iload_n 2, 1) := by decide +kernel
theorem dX4_copyFrom_158 : decode cX4_copyFrom 158 = .ok (.aaload, 1) := by decide +kernel
theorem dX4_copyFrom_159 : decode cX4_copyFrom 159 = .ok (.invokevirtual 81, 3) := by decide +kernel
theorem dX4_copyFrom_162 : decode cX4_copyFrom 162 = .ok (.iinc 2 1, 3) := by decide +kernel
theorem dX4_copyFrom_165 : decode cX4_copyFrom 165 = .ok (.goto (-27), 3) := by decide +kernel
theorem dX4_copyFrom_168 : decode cX4_copyFrom 168 = .ok (.aload_n 0, 1) := by decide +kernel
theorem dX4_copyFrom_169 : decode cX4_copyFrom 169 = .ok (.getfield 26, 3) := by decide +kernel
theorem dX4_copyFrom_172 : decode cX4_copyFrom 172 = .ok (.aload_n 1, 1) := by decide +kernel
theorem dX4_copyFrom_173 : decode cX4_copyFrom 173 = .ok (.getfield 26, 3) := by decide +kernel
theorem dX4_copyFrom_176 : decode cX4_copyFrom 176 = .ok (.invokevirtual 84, 3) := by decide +kernel
theorem dX4_copyFrom_179 : decode cX4_copyFrom 179 = .ok (.return_, 1) := by decide +kernel
theorem dX4_boardNumbered_0 : decode cX4_boardNumbered 0 = .ok (.iload_n 1, 1) := by decide +kernel
theorem dX4_boardNumbered_1 : decode cX4_boardNumbered 1 = .ok (.ifCond .lt 29, 3) := by decide +kernel
theorem dX4_boardNumbered_4 : decode cX4_boardNumbered 4 = .ok (.iload_n 1, 1) := by decide +kernel
theorem dX4_boardNumbered_5 : decode cX4_boardNumbered 5 = .ok (.aload_n 0, 1) := by decide +kernel
theorem dX4_boardNumbered_6 : decode cX4_boardNumbered 6 = .ok (.getfield 47, 3) := by decide +kernel
theorem dX4_boardNumbered_9 : decode cX4_boardNumbered 9 = .ok (.if_icmp .ge 21, 3) := by decide +kernel
theorem dX4_boardNumbered_12 : decode cX4_boardNumbered 12 = .ok (.iload_n 1, 1) := by decide +kernel
theorem dX4_boardNumbered_13 : decode cX4_boardNumbered 13 = .ok (.aload_n 0, 1) := by decide +kernel
theorem dX4_boardNumbered_14 : decode cX4_boardNumbered 14 = .ok (.getfield 11, 3) := by decide +kernel
theorem dX4_boardNumbered_17 : decode cX4_boardNumbered 17 = .ok (.arraylength, 1) := by decide +kernel
theorem dX4_boardNumbered_18 : decode cX4_boardNumbered 18 = .ok (.if_icmp .ge 12, 3) := by decide +kernel
theorem dX4_boardNumbered_21 : decode cX4_boardNumbered 21 = .ok (.aload_n 0, 1) := by decide +kernel
theorem dX4_boardNumbered_22 : decode cX4_boardNumbered 22 = .ok (.getfield 11, 3) := by decide +kernel
theorem dX4_boardNumbered_25 : decode cX4_boardNumbered 25 = .ok (.iload_n 1, 1) := by decide +kernel
theorem dX4_boardNumbered_26 : decode cX4_boardNumbered 26 = .ok (.aaload, 1) := by decide +kernel
theorem dX4_boardNumbered_27 : decode cX4_boardNumbered 27 = .ok (.goto 4, 3) := by decide +kernel
theorem dX4_boardNumbered_30 : decode cX4_boardNumbered 30 = .ok (.aconst_null, 1) := by decide +kernel
theorem dX4_boardNumbered_31 : decode cX4_boardNumbered 31 = .ok (.areturn, 1) := by decide +kernel
theorem dX4_traderNumbered_0 : decode cX4_traderNumbered 0 = .ok (.iload_n 1, 1) := by decide +kernel
theorem dX4_traderNumbered_1 : decode cX4_traderNumbered 1 = .ok (.ifCond .lt 29, 3) := by decide +kernel
theorem dX4_traderNumbered_4 : decode cX4_traderNumbered 4 = .ok (.iload_n 1, 1) := by decide +kernel
theorem dX4_traderNumbered_5 : decode cX4_traderNumbered 5 = .ok (.aload_n 0, 1) := by decide +kernel
theorem dX4_traderNumbered_6 : decode cX4_traderNumbered 6 = .ok (.getfield 50, 3) := by decide +kernel
theorem dX4_traderNumbered_9 : decode cX4_traderNumbered 9 = .ok (.if_icmp .ge 21, 3) := by decide +kernel
theorem dX4_traderNumbered_12 : decode cX4_traderNumbered 12 = .ok (.iload_n 1, 1) := by decide +kernel
theorem dX4_traderNumbered_13 : decode cX4_traderNumbered 13 = .ok (.aload_n 0, 1) := by decide +kernel
theorem dX4_traderNumbered_14 : decode cX4_traderNumbered 14 = .ok (.getfield 19, 3) := by decide +kernel
theorem dX4_traderNumbered_17 : decode cX4_traderNumbered 17 = .ok (.arraylength, 1) := by decide +kernel
theorem dX4_traderNumbered_18 : decode cX4_traderNumbered 18 = .ok (.if_icmp .ge 12, 3) := by decide +kernel
theorem dX4_traderNumbered_21 : decode cX4_traderNumbered 21 = .ok (.aload_n 0, 1) := by decide +kernel
theorem dX4_traderNumbered_22 : decode cX4_traderNumbered 22 = .ok (.getfield 19, 3) := by decide +kernel
theorem dX4_traderNumbered_25 : decode cX4_traderNumbered 25 = .ok (.iload_n 1, 1) := by decide +kernel
theorem dX4_traderNumbered_26 : decode cX4_traderNumbered 26 = .ok (.aaload, 1) := by decide +kernel
theorem dX4_traderNumbered_27 : decode cX4_traderNumbered 27 = .ok (.goto 4, 3) := by decide +kernel
theorem dX4_traderNumbered_30 : decode cX4_traderNumbered 30 = .ok (.aconst_null, 1) := by decide +kernel
theorem dX4_traderNumbered_31 : decode cX4_traderNumbered 31 = .ok (.areturn, 1) := by decide +kernel
theorem dX4_traderNamed_0 : decode cX4_traderNamed 0 = .ok (.iconst 0, 1) := by decide +kernel
theorem dX4_traderNamed_1 : decode cX4_traderNamed 1 = .ok (.istore_n 3, 1) := by decide +kernel
theorem dX4_traderNamed_2 : decode cX4_traderNamed 2 = .ok (.iload_n 3, 1) := by decide +kernel
theorem dX4_traderNamed_3 : decode cX4_traderNamed 3 = .ok (.aload_n 0, 1) := by decide +kernel
theorem dX4_traderNamed_4 : decode cX4_traderNamed 4 = .ok (.getfield 50, 3) := by decide +kernel
theorem dX4_traderNamed_7 : decode cX4_traderNamed 7 = .ok (.if_icmp .ge 30, 3) := by decide +kernel
theorem dX4_traderNamed_10 : decode cX4_traderNamed 10 = .ok (.aload_n 0, 1) := by decide +kernel
theorem dX4_traderNamed_11 : decode cX4_traderNamed 11 = .ok (.getfield 19, 3) := by decide +kernel
theorem dX4_traderNamed_14 : decode cX4_traderNamed 14 = .ok (.iload_n 3, 1) := by decide +kernel
theorem dX4_traderNamed_15 : decode cX4_traderNamed 15 = .ok (.aaload, 1) := by decide +kernel
theorem dX4_traderNamed_16 : decode cX4_traderNamed 16 = .ok (.getfield 87, 3) := by decide +kernel
theorem dX4_traderNamed_19 : decode cX4_traderNamed 19 = .ok (.lload_n 1, 1) := by decide +kernel
theorem dX4_traderNamed_20 : decode cX4_traderNamed 20 = .ok (.lcmp, 1) := by decide +kernel
theorem dX4_traderNamed_21 : decode cX4_traderNamed 21 = .ok (.ifCond .ne 10, 3) := by decide +kernel
theorem dX4_traderNamed_24 : decode cX4_traderNamed 24 = .ok (.aload_n 0, 1) := by decide +kernel
theorem dX4_traderNamed_25 : decode cX4_traderNamed 25 = .ok (.getfield 19, 3) := by decide +kernel
theorem dX4_traderNamed_28 : decode cX4_traderNamed 28 = .ok (.iload_n 3, 1) := by decide +kernel
theorem dX4_traderNamed_29 : decode cX4_traderNamed 29 = .ok (.aaload, 1) := by decide +kernel
theorem dX4_traderNamed_30 : decode cX4_traderNamed 30 = .ok (.areturn, 1) := by decide +kernel
theorem dX4_traderNamed_31 : decode cX4_traderNamed 31 = .ok (.iinc 3 1, 3) := by decide +kernel
theorem dX4_traderNamed_34 : decode cX4_traderNamed 34 = .ok (.goto (-32), 3) := by decide +kernel
theorem dX4_traderNamed_37 : decode cX4_traderNamed 37 = .ok (.aconst_null, 1) := by decide +kernel
theorem dX4_traderNamed_38 : decode cX4_traderNamed 38 = .ok (.areturn, 1) := by decide +kernel
theorem dX4_addBoard_0 : decode cX4_addBoard 0 = .ok (.aload_n 0, 1) := by decide +kernel
theorem dX4_addBoard_1 : decode cX4_addBoard 1 = .ok (.getfield 47, 3) := by decide +kernel
theorem dX4_addBoard_4 : decode cX4_addBoard 4 = .ok (.aload_n 0, 1) := by decide +kernel
theorem dX4_addBoard_5 : decode cX4_addBoard 5 = .ok (.getfield 11, 3) := by decide +kernel
theorem dX4_addBoard_8 : decode cX4_addBoard 8 = .ok (.arraylength, 1) := by decide +kernel
theorem dX4_addBoard_9 : decode cX4_addBoard 9 = .ok (.if_icmp .ge 28, 3) := by decide +kernel
theorem dX4_addBoard_12 : decode cX4_addBoard 12 = .ok (.aload_n 0, 1) := by decide +kernel
theorem dX4_addBoard_13 : decode cX4_addBoard 13 = .ok (.getfield 11, 3) := by decide +kernel
theorem dX4_addBoard_16 : decode cX4_addBoard 16 = .ok (.aload_n 0, 1) := by decide +kernel
theorem dX4_addBoard_17 : decode cX4_addBoard 17 = .ok (.getfield 47, 3) := by decide +kernel
theorem dX4_addBoard_20 : decode cX4_addBoard 20 = .ok (.aaload, 1) := by decide +kernel
theorem dX4_addBoard_21 : decode cX4_addBoard 21 = .ok (.iload_n 1, 1) := by decide +kernel
theorem dX4_addBoard_22 : decode cX4_addBoard 22 = .ok (.iload_n 2, 1) := by decide +kernel
theorem dX4_addBoard_23 : decode cX4_addBoard 23 = .ok (.iload_n 3, 1) := by decide +kernel
theorem dX4_addBoard_24 : decode cX4_addBoard 24 = .ok (.invokevirtual 91, 3) := by decide +kernel
theorem dX4_addBoard_27 : decode cX4_addBoard 27 = .ok (.aload_n 0, 1) := by decide +kernel
theorem dX4_addBoard_28 : decode cX4_addBoard 28 = .ok (.dup, 1) := by decide +kernel
theorem dX4_addBoard_29 : decode cX4_addBoard 29 = .ok (.getfield 47, 3) := by decide +kernel
theorem dX4_addBoard_32 : decode cX4_addBoard 32 = .ok (.iconst 1, 1) := by decide +kernel
theorem dX4_addBoard_33 : decode cX4_addBoard 33 = .ok (.iadd, 1) := by decide +kernel
theorem dX4_addBoard_34 : decode cX4_addBoard 34 = .ok (.putfield 47, 3) := by decide +kernel
theorem dX4_addBoard_37 : decode cX4_addBoard 37 = .ok (.return_, 1) := by decide +kernel
theorem dX4_canAdmit_0 : decode cX4_canAdmit 0 = .ok (.lload_n 1, 1) := by decide +kernel
theorem dX4_canAdmit_1 : decode cX4_canAdmit 1 = .ok (.lconst 0, 1) := by decide +kernel
theorem dX4_canAdmit_2 : decode cX4_canAdmit 2 = .ok (.lcmp, 1) := by decide +kernel
theorem dX4_canAdmit_3 : decode cX4_canAdmit 3 = .ok (.ifCond .eq 27, 3) := by decide +kernel
theorem dX4_canAdmit_6 : decode cX4_canAdmit 6 = .ok (.aload_n 0, 1) := by decide +kernel
theorem dX4_canAdmit_7 : decode cX4_canAdmit 7 = .ok (.getfield 50, 3) := by decide +kernel
theorem dX4_canAdmit_10 : decode cX4_canAdmit 10 = .ok (.aload_n 0, 1) := by decide +kernel
theorem dX4_canAdmit_11 : decode cX4_canAdmit 11 = .ok (.getfield 19, 3) := by decide +kernel
theorem dX4_canAdmit_14 : decode cX4_canAdmit 14 = .ok (.arraylength, 1) := by decide +kernel
theorem dX4_canAdmit_15 : decode cX4_canAdmit 15 = .ok (.if_icmp .ge 15, 3) := by decide +kernel
theorem dX4_canAdmit_18 : decode cX4_canAdmit 18 = .ok (.aload_n 0, 1) := by decide +kernel
theorem dX4_canAdmit_19 : decode cX4_canAdmit 19 = .ok (.lload_n 1, 1) := by decide +kernel
theorem dX4_canAdmit_20 : decode cX4_canAdmit 20 = .ok (.invokevirtual 95, 3) := by decide +kernel
theorem dX4_canAdmit_23 : decode cX4_canAdmit 23 = .ok (.ifnonnull 7, 3) := by decide +kernel
theorem dX4_canAdmit_26 : decode cX4_canAdmit 26 = .ok (.iconst 1, 1) := by decide +kernel
theorem dX4_canAdmit_27 : decode cX4_canAdmit 27 = .ok (.goto 4, 3) := by decide +kernel
theorem dX4_canAdmit_30 : decode cX4_canAdmit 30 = .ok (.iconst 0, 1) := by decide +kernel
theorem dX4_canAdmit_31 : decode cX4_canAdmit 31 = .ok (.ireturn, 1) := by decide +kernel
theorem dX4_admit_0 : decode cX4_admit 0 = .ok (.aload_n 0, 1) := by decide +kernel
theorem dX4_admit_1 : decode cX4_admit 1 = .ok (.getfield 50, 3) := by decide +kernel
theorem dX4_admit_4 : decode cX4_admit 4 = .ok (.aload_n 0, 1) := by decide +kernel
theorem dX4_admit_5 : decode cX4_admit 5 = .ok (.getfield 19, 3) := by decide +kernel
theorem dX4_admit_8 : decode cX4_admit 8 = .ok (.arraylength, 1) := by decide +kernel
theorem dX4_admit_9 : decode cX4_admit 9 = .ok (.if_icmp .lt 5, 3) := by decide +kernel
theorem dX4_admit_12 : decode cX4_admit 12 = .ok (.iconst (-1), 1) := by decide +kernel
theorem dX4_admit_13 : decode cX4_admit 13 = .ok (.ireturn, 1) := by decide +kernel
theorem dX4_admit_14 : decode cX4_admit 14 = .ok (.aload_n 0, 1) := by decide +kernel
theorem dX4_admit_15 : decode cX4_admit 15 = .ok (.getfield 19, 3) := by decide +kernel
theorem dX4_admit_18 : decode cX4_admit 18 = .ok (.aload_n 0, 1) := by decide +kernel
theorem dX4_admit_19 : decode cX4_admit 19 = .ok (.getfield 50, 3) := by decide +kernel
theorem dX4_admit_22 : decode cX4_admit 22 = .ok (.aaload, 1) := by decide +kernel
theorem dX4_admit_23 : decode cX4_admit 23 = .ok (.astore 6, 2) := by decide +kernel
theorem dX4_admit_25 : decode cX4_admit 25 = .ok (.aload_n 0, 1) := by decide +kernel
theorem dX4_admit_26 : decode cX4_admit 26 = .ok (.dup, 1) := by decide +kernel
theorem dX4_admit_27 : decode cX4_admit 27 = .ok (.getfield 50, 3) := by decide +kernel
theorem dX4_admit_30 : decode cX4_admit 30 = .ok (.iconst 1, 1) := by decide +kernel
theorem dX4_admit_31 : decode cX4_admit 31 = .ok (.iadd, 1) := by decide +kernel
theorem dX4_admit_32 : decode cX4_admit 32 = .ok (.putfield 50, 3) := by decide +kernel
theorem dX4_admit_35 : decode cX4_admit 35 = .ok (.aload 6, 2) := by decide +kernel
theorem dX4_admit_37 : decode cX4_admit 37 = .ok (.lload_n 1, 1) := by decide +kernel
theorem dX4_admit_38 : decode cX4_admit 38 = .ok (.putfield 87, 3) := by decide +kernel
theorem dX4_admit_41 : decode cX4_admit 41 = .ok (.aload 6, 2) := by decide +kernel
theorem dX4_admit_43 : decode cX4_admit 43 = .ok (.iload_n 3, 1) := by decide +kernel
theorem dX4_admit_44 : decode cX4_admit 44 = .ok (.putfield 99, 3) := by decide +kernel
theorem dX4_admit_47 : decode cX4_admit 47 = .ok (.aload 6, 2) := by decide +kernel
theorem dX4_admit_49 : decode cX4_admit 49 = .ok (.iload 4, 2) := by decide +kernel
theorem dX4_admit_51 : decode cX4_admit 51 = .ok (.putfield 102, 3) := by decide +kernel
theorem dX4_admit_54 : decode cX4_admit 54 = .ok (.aload 6, 2) := by decide +kernel
theorem dX4_admit_56 : decode cX4_admit 56 = .ok (.iload 5, 2) := by decide +kernel
theorem dX4_admit_58 : decode cX4_admit 58 = .ok (.putfield 105, 3) := by decide +kernel
theorem dX4_admit_61 : decode cX4_admit 61 = .ok (.aload 6, 2) := by decide +kernel
theorem dX4_admit_63 : decode cX4_admit 63 = .ok (.iconst 1, 1) := by decide +kernel
theorem dX4_admit_64 : decode cX4_admit 64 = .ok (.putfield 108, 3) := by decide +kernel
theorem dX4_admit_67 : decode cX4_admit 67 = .ok (.aload 6, 2) := by decide +kernel
theorem dX4_admit_69 : decode cX4_admit 69 = .ok (.iconst (-1), 1) := by decide +kernel
theorem dX4_admit_70 : decode cX4_admit 70 = .ok (.putfield 112, 3) := by decide +kernel
theorem dX4_admit_73 : decode cX4_admit 73 = .ok (.aload 6, 2) := by decide +kernel
theorem dX4_admit_75 : decode cX4_admit 75 = .ok (.iconst 0, 1) := by decide +kernel
theorem dX4_admit_76 : decode cX4_admit 76 = .ok (.putfield 115, 3) := by decide +kernel
theorem dX4_admit_79 : decode cX4_admit 79 = .ok (.aload_n 0, 1) := by decide +kernel
theorem dX4_admit_80 : decode cX4_admit 80 = .ok (.dup, 1) := by decide +kernel
theorem dX4_admit_81 : decode cX4_admit 81 = .ok (.getfield 74, 3) := by decide +kernel
theorem dX4_admit_84 : decode cX4_admit 84 = .ok (.iload 4, 2) := by decide +kernel
theorem dX4_admit_86 : decode cX4_admit 86 = .ok (.iadd, 1) := by decide +kernel
theorem dX4_admit_87 : decode cX4_admit 87 = .ok (.putfield 74, 3) := by decide +kernel
theorem dX4_admit_90 : decode cX4_admit 90 = .ok (.aload 6, 2) := by decide +kernel
theorem dX4_admit_92 : decode cX4_admit 92 = .ok (.getfield 118, 3) := by decide +kernel
theorem dX4_admit_95 : decode cX4_admit 95 = .ok (.ireturn, 1) := by decide +kernel
theorem dX4_torqueOn_0 : decode cX4_torqueOn 0 = .ok (.iconst 0, 1) := by decide +kernel
theorem dX4_torqueOn_1 : decode cX4_torqueOn 1 = .ok (.istore_n 2, 1) := by decide +kernel
theorem dX4_torqueOn_2 : decode cX4_torqueOn 2 = .ok (.iconst 0, 1) := by decide +kernel
theorem dX4_torqueOn_3 : decode cX4_torqueOn 3 = .ok (.istore_n 3, 1) := by decide +kernel
theorem dX4_torqueOn_4 : decode cX4_torqueOn 4 = .ok (.iload_n 3, 1) := by decide +kernel
theorem dX4_torqueOn_5 : decode cX4_torqueOn 5 = .ok (.aload_n 0, 1) := by decide +kernel
theorem dX4_torqueOn_6 : decode cX4_torqueOn 6 = .ok (.getfield 50, 3) := by decide +kernel
theorem dX4_torqueOn_9 : decode cX4_torqueOn 9 = .ok (.if_icmp .ge 43, 3) := by decide +kernel
theorem dX4_torqueOn_12 : decode cX4_torqueOn 12 = .ok (.aload_n 0, 1) := by decide +kernel
theorem dX4_torqueOn_13 : decode cX4_torqueOn 13 = .ok (.getfield 19, 3) := by decide +kernel
theorem dX4_torqueOn_16 : decode cX4_torqueOn 16 = .ok (.iload_n 3, 1) := by decide +kernel
theorem dX4_torqueOn_17 : decode cX4_torqueOn 17 = .ok (.aaload, 1) := by decide +kernel
theorem dX4_torqueOn_18 : decode cX4_torqueOn 18 = .ok (.astore 4, 2) := by decide +kernel
theorem dX4_torqueOn_20 : decode cX4_torqueOn 20 = .ok (.aload 4, 2) := by decide +kernel
theorem dX4_torqueOn_22 : decode cX4_torqueOn 22 = .ok (.getfield 112, 3) := by decide +kernel
theorem dX4_torqueOn_25 : decode cX4_torqueOn 25 = .ok (.aload_n 1, 1) := by decide +kernel
theorem dX4_torqueOn_26 : decode cX4_torqueOn 26 = .ok (.getfield 121, 3) := by decide +kernel
theorem dX4_torqueOn_29 : decode cX4_torqueOn 29 = .ok (.if_icmp .ne 17, 3) := by decide +kernel
theorem dX4_torqueOn_32 : decode cX4_torqueOn 32 = .ok (.iload_n 2, 1) := by decide +kernel
theorem dX4_torqueOn_33 : decode cX4_torqueOn 33 = .ok (.aload 4, 2) := by decide +kernel
theorem dX4_torqueOn_35 : decode cX4_torqueOn 35 = .ok (.getfield 115, 3) := by decide +kernel
theorem dX4_torqueOn_38 : decode cX4_torqueOn 38 = .ok (.aload 4, 2) := by decide +kernel
theorem dX4_torqueOn_40 : decode cX4_torqueOn 40 = .ok (.getfield 99, 3) := by decide +kernel
theorem dX4_torqueOn_43 : decode cX4_torqueOn 43 = .ok (.imul, 1) := by decide +kernel
theorem dX4_torqueOn_44 : decode cX4_torqueOn 44 = .ok (.iadd, 1) := by decide +kernel
theorem dX4_torqueOn_45 : decode cX4_torqueOn 45 = .ok (.istore_n 2, 1) := by decide +kernel
theorem dX4_torqueOn_46 : decode cX4_torqueOn 46 = .ok (.iinc 3 1, 3) := by decide +kernel
theorem dX4_torqueOn_49 : decode cX4_torqueOn 49 = .ok (.goto (-45), 3) := by decide +kernel
theorem dX4_torqueOn_52 : decode cX4_torqueOn 52 = .ok (.iload_n 2, 1) := by decide +kernel
theorem dX4_torqueOn_53 : decode cX4_torqueOn 53 = .ok (.ireturn, 1) := by decide +kernel
theorem dX4_heightOn_0 : decode cX4_heightOn 0 = .ok (.iload_n 2, 1) := by decide +kernel
theorem dX4_heightOn_1 : decode cX4_heightOn 1 = .ok (.ineg, 1) := by decide +kernel
theorem dX4_heightOn_2 : decode cX4_heightOn 2 = .ok (.aload_n 1, 1) := by decide +kernel
theorem dX4_heightOn_3 : decode cX4_heightOn 3 = .ok (.aload_n 0, 1) := by decide +kernel
theorem dX4_heightOn_4 : decode cX4_heightOn 4 = .ok (.aload_n 1, 1) := by decide +kernel
theorem dX4_heightOn_5 : decode cX4_heightOn 5 = .ok (.invokevirtual 122, 3) := by decide +kernel
theorem dX4_heightOn_8 : decode cX4_heightOn 8 = .ok (.invokevirtual 126, 3) := by decide +kernel
theorem dX4_heightOn_11 : decode cX4_heightOn 11 = .ok (.imul, 1) := by decide +kernel
theorem dX4_heightOn_12 : decode cX4_heightOn 12 = .ok (.ireturn, 1) := by decide +kernel
theorem dX4_priceOn_0 : decode cX4_priceOn 0 = .ok (.aload_n 0, 1) := by decide +kernel
theorem dX4_priceOn_1 : decode cX4_priceOn 1 = .ok (.getfield 62, 3) := by decide +kernel
theorem dX4_priceOn_4 : decode cX4_priceOn 4 = .ok (.iload_n 2, 1) := by decide +kernel
theorem dX4_priceOn_5 : decode cX4_priceOn 5 = .ok (.invokestatic 130, 3) := by decide +kernel
theorem dX4_priceOn_8 : decode cX4_priceOn 8 = .ok (.iadd, 1) := by decide +kernel
theorem dX4_priceOn_9 : decode cX4_priceOn 9 = .ok (.iconst 0, 1) := by decide +kernel
theorem dX4_priceOn_10 : decode cX4_priceOn 10 = .ok (.aload_n 0, 1) := by decide +kernel
theorem dX4_priceOn_11 : decode cX4_priceOn 11 = .ok (.aload_n 1, 1) := by decide +kernel
theorem dX4_priceOn_12 : decode cX4_priceOn 12 = .ok (.iload_n 2, 1) := by decide +kernel
theorem dX4_priceOn_13 : decode cX4_priceOn 13 = .ok (.invokevirtual 135, 3) := by decide +kernel
theorem dX4_priceOn_16 : decode cX4_priceOn 16 = .ok (.invokestatic 139, 3) := by decide +kernel
theorem dX4_priceOn_19 : decode cX4_priceOn 19 = .ok (.iadd, 1) := by decide +kernel
theorem dX4_priceOn_20 : decode cX4_priceOn 20 = .ok (.ireturn, 1) := by decide +kernel
theorem dX4_heightUnder_0 : decode cX4_heightUnder 0 = .ok (.aload_n 0, 1) := by decide +kernel
theorem dX4_heightUnder_1 : decode cX4_heightUnder 1 = .ok (.aload_n 1, 1) := by decide +kernel
theorem dX4_heightUnder_2 : decode cX4_heightUnder 2 = .ok (.getfield 112, 3) := by decide +kernel
theorem dX4_heightUnder_5 : decode cX4_heightUnder 5 = .ok (.invokevirtual 143, 3) := by decide +kernel
theorem dX4_heightUnder_8 : decode cX4_heightUnder 8 = .ok (.astore_n 2, 1) := by decide +kernel
theorem dX4_heightUnder_9 : decode cX4_heightUnder 9 = .ok (.aload_n 2, 1) := by decide +kernel
theorem dX4_heightUnder_10 : decode cX4_heightUnder 10 = .ok (.ifnonnull 7, 3) := by decide +kernel
theorem dX4_heightUnder_13 : decode cX4_heightUnder 13 = .ok (.iconst 0, 1) := by decide +kernel
theorem dX4_heightUnder_14 : decode cX4_heightUnder 14 = .ok (.goto 18, 3) := by decide +kernel
theorem dX4_heightUnder_17 : decode cX4_heightUnder 17 = .ok (.aload_n 1, 1) := by decide +kernel
theorem dX4_heightUnder_18 : decode cX4_heightUnder 18 = .ok (.getfield 115, 3) := by decide +kernel
theorem dX4_heightUnder_21 : decode cX4_heightUnder 21 = .ok (.ineg, 1) := by decide +kernel
theorem dX4_heightUnder_22 : decode cX4_heightUnder 22 = .ok (.aload_n 2, 1) := by decide +kernel
theorem dX4_heightUnder_23 : decode cX4_heightUnder 23 = .ok (.aload_n 0, 1) := by decide +kernel
theorem dX4_heightUnder_24 : decode cX4_heightUnder 24 = .ok (.aload_n 2, 1) := by decide +kernel
theorem dX4_heightUnder_25 : decode cX4_heightUnder 25 = .ok (.invokevirtual 122, 3) := by decide +kernel
theorem dX4_heightUnder_28 : decode cX4_heightUnder 28 = .ok (.invokevirtual 126, 3) := by decide +kernel
theorem dX4_heightUnder_31 : decode cX4_heightUnder 31 = .ok (.imul, 1) := by decide +kernel
theorem dX4_heightUnder_32 : decode cX4_heightUnder 32 = .ok (.ireturn, 1) := by decide +kernel
theorem dX4_incomeFor_0 : decode cX4_incomeFor 0 = .ok (.aload_n 1, 1) := by decide +kernel
theorem dX4_incomeFor_1 : decode cX4_incomeFor 1 = .ok (.invokevirtual 147, 3) := by decide +kernel
theorem dX4_incomeFor_4 : decode cX4_incomeFor 4 = .ok (.ifCond .eq 16, 3) := by decide +kernel
theorem dX4_incomeFor_7 : decode cX4_incomeFor 7 = .ok (.aload_n 0, 1) := by decide +kernel
theorem dX4_incomeFor_8 : decode cX4_incomeFor 8 = .ok (.getfield 59, 3) := by decide +kernel
theorem dX4_incomeFor_11 : decode cX4_incomeFor 11 = .ok (.aload_n 0, 1) := by decide +kernel
theorem dX4_incomeFor_12 : decode cX4_incomeFor 12 = .ok (.aload_n 1, 1) := by decide +kernel
theorem dX4_incomeFor_13 : decode cX4_incomeFor 13 = .ok (.invokevirtual 151, 3) := by decide +kernel
theorem dX4_incomeFor_16 : decode cX4_incomeFor 16 = .ok (.iadd, 1) := by decide +kernel
theorem dX4_incomeFor_17 : decode cX4_incomeFor 17 = .ok (.goto 4, 3) := by decide +kernel
theorem dX4_incomeFor_20 : decode cX4_incomeFor 20 = .ok (.iconst 0, 1) := by decide +kernel
theorem dX4_incomeFor_21 : decode cX4_incomeFor 21 = .ok (.ireturn, 1) := by decide +kernel
theorem dX4_unitPrice_0 : decode cX4_unitPrice 0 = .ok (.iconst 1, 1) := by decide +kernel
theorem dX4_unitPrice_1 : decode cX4_unitPrice 1 = .ok (.aload_n 0, 1) := by decide +kernel
theorem dX4_unitPrice_2 : decode cX4_unitPrice 2 = .ok (.getfield 65, 3) := by decide +kernel
theorem dX4_unitPrice_5 : decode cX4_unitPrice 5 = .ok (.aload_n 0, 1) := by decide +kernel
theorem dX4_unitPrice_6 : decode cX4_unitPrice 6 = .ok (.aload_n 2, 1) := by decide +kernel
theorem dX4_unitPrice_7 : decode cX4_unitPrice 7 = .ok (.invokevirtual 151, 3) := by decide +kernel
theorem dX4_unitPrice_10 : decode cX4_unitPrice 10 = .ok (.iadd, 1) := by decide +kernel
theorem dX4_unitPrice_11 : decode cX4_unitPrice 11 = .ok (.aload_n 0, 1) := by decide +kernel
theorem dX4_unitPrice_12 : decode cX4_unitPrice 12 = .ok (.aload_n 1, 1) := by decide +kernel
theorem dX4_unitPrice_13 : decode cX4_unitPrice 13 = .ok (.invokevirtual 151, 3) := by decide +kernel
theorem dX4_unitPrice_16 : decode cX4_unitPrice 16 = .ok (.isub, 1) := by decide +kernel
theorem dX4_unitPrice_17 : decode cX4_unitPrice 17 = .ok (.invokestatic 139, 3) := by decide +kernel
theorem dX4_unitPrice_20 : decode cX4_unitPrice 20 = .ok (.ireturn, 1) := by decide +kernel
theorem dX4_mostBalancingSeat_0 : decode cX4_mostBalancingSeat 0 = .ok (.aload_n 0, 1) := by decide +kernel
theorem dX4_mostBalancingSeat_1 : decode cX4_mostBalancingSeat 1 = .ok (.aload_n 1, 1) := by decide +kernel
theorem dX4_mostBalancingSeat_2 : decode cX4_mostBalancingSeat 2 = .ok (.invokevirtual 122, 3) := by decide +kernel
theorem dX4_mostBalancingSeat_5 : decode cX4_mostBalancingSeat 5 = .ok (.istore_n 3, 1) := by decide +kernel
theorem dX4_mostBalancingSeat_6 : decode cX4_mostBalancingSeat 6 = .ok (.iconst 0, 1) := by decide +kernel
theorem dX4_mostBalancingSeat_7 : decode cX4_mostBalancingSeat 7 = .ok (.istore 4, 2) := by decide +kernel
theorem dX4_mostBalancingSeat_9 : decode cX4_mostBalancingSeat 9 = .ok (.iconst 0, 1) := by decide +kernel
theorem dX4_mostBalancingSeat_10 : decode cX4_mostBalancingSeat 10 = .ok (.istore 5, 2) := by decide +kernel
theorem dX4_mostBalancingSeat_12 : decode cX4_mostBalancingSeat 12 = .ok (.aload_n 1, 1) := by decide +kernel
theorem dX4_mostBalancingSeat_13 : decode cX4_mostBalancingSeat 13 = .ok (.getfield 155, 3) := by decide +kernel
theorem dX4_mostBalancingSeat_16 : decode cX4_mostBalancingSeat 16 = .ok (.ineg, 1) := by decide +kernel
theorem dX4_mostBalancingSeat_17 : decode cX4_mostBalancingSeat 17 = .ok (.istore 6, 2) := by decide +kernel
theorem dX4_mostBalancingSeat_19 : decode cX4_mostBalancingSeat 19 = .ok (.iload 6, 2) := by decide +kernel
theorem dX4_mostBalancingSeat_21 : decode cX4_mostBalancingSeat 21 = .ok (.aload_n 1, 1) := by decide +kernel
theorem dX4_mostBalancingSeat_22 : decode cX4_mostBalancingSeat 22 = .ok (.getfield 155, 3) := by decide +kernel
theorem dX4_mostBalancingSeat_25 : decode cX4_mostBalancingSeat 25 = .ok (.if_icmp .gt 49, 3) := by decide +kernel
theorem dX4_mostBalancingSeat_28 : decode cX4_mostBalancingSeat 28 = .ok (.iload_n 3, 1) := by decide +kernel
theorem dX4_mostBalancingSeat_29 : decode cX4_mostBalancingSeat 29 = .ok (.iload 6, 2) := by decide +kernel
theorem dX4_mostBalancingSeat_31 : decode cX4_mostBalancingSeat 31 = .ok (.iload_n 2, 1) := by decide +kernel
theorem dX4_mostBalancingSeat_32 : decode cX4_mostBalancingSeat 32 = .ok (.imul, 1) := by decide +kernel
theorem dX4_mostBalancingSeat_33 : decode cX4_mostBalancingSeat 33 = .ok (.iadd, 1) := by decide +kernel
theorem dX4_mostBalancingSeat_34 : decode cX4_mostBalancingSeat 34 = .ok (.invokestatic 130, 3) := by decide +kernel
theorem dX4_mostBalancingSeat_37 : decode cX4_mostBalancingSeat 37 = .ok (.istore 7, 2) := by decide +kernel
theorem dX4_mostBalancingSeat_39 : decode cX4_mostBalancingSeat 39 = .ok (.aload_n 1, 1) := by decide +kernel
theorem dX4_mostBalancingSeat_40 : decode cX4_mostBalancingSeat 40 = .ok (.iload 6, 2) := by decide +kernel
theorem dX4_mostBalancingSeat_42 : decode cX4_mostBalancingSeat 42 = .ok (.invokevirtual 158, 3) := by decide +kernel
theorem dX4_mostBalancingSeat_45 : decode cX4_mostBalancingSeat 45 = .ok (.ifCond .eq 23, 3) := by decide +kernel
theorem dX4_mostBalancingSeat_48 : decode cX4_mostBalancingSeat 48 = .ok (.iload 4, 2) := by decide +kernel
theorem dX4_mostBalancingSeat_50 : decode cX4_mostBalancingSeat 50 = .ok (.ifCond .eq 10, 3) := by decide +kernel
theorem dX4_mostBalancingSeat_53 : decode cX4_mostBalancingSeat 53 = .ok (.iload 7, 2) := by decide +kernel
theorem dX4_mostBalancingSeat_55 : decode cX4_mostBalancingSeat 55 = .ok (.iload 5, 2) := by decide +kernel
theorem dX4_mostBalancingSeat_57 : decode cX4_mostBalancingSeat 57 = .ok (.if_icmp .ge 11, 3) := by decide +kernel
theorem dX4_mostBalancingSeat_60 : decode cX4_mostBalancingSeat 60 = .ok (.iload 6, 2) := by decide +kernel
theorem dX4_mostBalancingSeat_62 : decode cX4_mostBalancingSeat 62 = .ok (.istore 4, 2) := by decide +kernel
theorem dX4_mostBalancingSeat_64 : decode cX4_mostBalancingSeat 64 = .ok (.iload 7, 2) := by decide +kernel
theorem dX4_mostBalancingSeat_66 : decode cX4_mostBalancingSeat 66 = .ok (.istore 5, 2) := by decide +kernel
theorem dX4_mostBalancingSeat_68 : decode cX4_mostBalancingSeat 68 = .ok (.iinc 6 1, 3) := by decide +kernel
theorem dX4_mostBalancingSeat_71 : decode cX4_mostBalancingSeat 71 = .ok (.goto (-52), 3) := by decide +kernel
theorem dX4_mostBalancingSeat_74 : decode cX4_mostBalancingSeat 74 = .ok (.iload 4, 2) := by decide +kernel
theorem dX4_mostBalancingSeat_76 : decode cX4_mostBalancingSeat 76 = .ok (.ireturn, 1) := by decide +kernel
theorem dX4_mostPayingSeat_0 : decode cX4_mostPayingSeat 0 = .ok (.iconst 0, 1) := by decide +kernel
theorem dX4_mostPayingSeat_1 : decode cX4_mostPayingSeat 1 = .ok (.istore_n 3, 1) := by decide +kernel
theorem dX4_mostPayingSeat_2 : decode cX4_mostPayingSeat 2 = .ok (.iconst 0, 1) := by decide +kernel
theorem dX4_mostPayingSeat_3 : decode cX4_mostPayingSeat 3 = .ok (.istore 4, 2) := by decide +kernel
theorem dX4_mostPayingSeat_5 : decode cX4_mostPayingSeat 5 = .ok (.aload_n 2, 1) := by decide +kernel
theorem dX4_mostPayingSeat_6 : decode cX4_mostPayingSeat 6 = .ok (.getfield 155, 3) := by decide +kernel
theorem dX4_mostPayingSeat_9 : decode cX4_mostPayingSeat 9 = .ok (.ineg, 1) := by decide +kernel
theorem dX4_mostPayingSeat_10 : decode cX4_mostPayingSeat 10 = .ok (.istore 5, 2) := by decide +kernel
theorem dX4_mostPayingSeat_12 : decode cX4_mostPayingSeat 12 = .ok (.iload 5, 2) := by decide +kernel
theorem dX4_mostPayingSeat_14 : decode cX4_mostPayingSeat 14 = .ok (.aload_n 2, 1) := by decide +kernel
theorem dX4_mostPayingSeat_15 : decode cX4_mostPayingSeat 15 = .ok (.getfield 155, 3) := by decide +kernel
theorem dX4_mostPayingSeat_18 : decode cX4_mostPayingSeat 18 = .ok (.if_icmp .gt 65, 3) := by decide +kernel
theorem dX4_mostPayingSeat_21 : decode cX4_mostPayingSeat 21 = .ok (.iload 5, 2) := by decide +kernel
theorem dX4_mostPayingSeat_23 : decode cX4_mostPayingSeat 23 = .ok (.ineg, 1) := by decide +kernel
theorem dX4_mostPayingSeat_24 : decode cX4_mostPayingSeat 24 = .ok (.aload_n 2, 1) := by decide +kernel
theorem dX4_mostPayingSeat_25 : decode cX4_mostPayingSeat 25 = .ok (.aload_n 0, 1) := by decide +kernel
theorem dX4_mostPayingSeat_26 : decode cX4_mostPayingSeat 26 = .ok (.aload_n 1, 1) := by decide +kernel
theorem dX4_mostPayingSeat_27 : decode cX4_mostPayingSeat 27 = .ok (.aload_n 2, 1) := by decide +kernel
theorem dX4_mostPayingSeat_28 : decode cX4_mostPayingSeat 28 = .ok (.iload 5, 2) := by decide +kernel
theorem dX4_mostPayingSeat_30 : decode cX4_mostPayingSeat 30 = .ok (.invokevirtual 162, 3) := by decide +kernel
theorem dX4_mostPayingSeat_33 : decode cX4_mostPayingSeat 33 = .ok (.invokevirtual 126, 3) := by decide +kernel
theorem dX4_mostPayingSeat_36 : decode cX4_mostPayingSeat 36 = .ok (.imul, 1) := by decide +kernel
theorem dX4_mostPayingSeat_37 : decode cX4_mostPayingSeat 37 = .ok (.istore 6, 2) := by decide +kernel
theorem dX4_mostPayingSeat_39 : decode cX4_mostPayingSeat 39 = .ok (.aload_n 2, 1) := by decide +kernel
theorem dX4_mostPayingSeat_40 : decode cX4_mostPayingSeat 40 = .ok (.iload 5, 2) := by decide +kernel
theorem dX4_mostPayingSeat_42 : decode cX4_mostPayingSeat 42 = .ok (.invokevirtual 158, 3) := by decide +kernel
theorem dX4_mostPayingSeat_45 : decode cX4_mostPayingSeat 45 = .ok (.ifCond .eq 32, 3) := by decide +kernel
theorem dX4_mostPayingSeat_48 : decode cX4_mostPayingSeat 48 = .ok (.aload_n 0, 1) := by decide +kernel
theorem dX4_mostPayingSeat_49 : decode cX4_mostPayingSeat 49 = .ok (.aload_n 1, 1) := by decide +kernel
theorem dX4_mostPayingSeat_50 : decode cX4_mostPayingSeat 50 = .ok (.aload_n 2, 1) := by decide +kernel
theorem dX4_mostPayingSeat_51 : decode cX4_mostPayingSeat 51 = .ok (.iload 5, 2) := by decide +kernel
theorem dX4_mostPayingSeat_53 : decode cX4_mostPayingSeat 53 = .ok (.invokevirtual 166, 3) := by decide +kernel
theorem dX4_mostPayingSeat_56 : decode cX4_mostPayingSeat 56 = .ok (.ifCond .ne 21, 3) := by decide +kernel
theorem dX4_mostPayingSeat_59 : decode cX4_mostPayingSeat 59 = .ok (.iload_n 3, 1) := by decide +kernel
theorem dX4_mostPayingSeat_60 : decode cX4_mostPayingSeat 60 = .ok (.ifCond .eq 10, 3) := by decide +kernel
theorem dX4_mostPayingSeat_63 : decode cX4_mostPayingSeat 63 = .ok (.iload 6, 2) := by decide +kernel
theorem dX4_mostPayingSeat_65 : decode cX4_mostPayingSeat 65 = .ok (.iload 4, 2) := by decide +kernel
theorem dX4_mostPayingSeat_67 : decode cX4_mostPayingSeat 67 = .ok (.if_icmp .le 10, 3) := by decide +kernel
theorem dX4_mostPayingSeat_70 : decode cX4_mostPayingSeat 70 = .ok (.iload 5, 2) := by decide +kernel
theorem dX4_mostPayingSeat_72 : decode cX4_mostPayingSeat 72 = .ok (.istore_n 3, 1) := by decide +kernel
theorem dX4_mostPayingSeat_73 : decode cX4_mostPayingSeat 73 = .ok (.iload 6, 2) := by decide +kernel
theorem dX4_mostPayingSeat_75 : decode cX4_mostPayingSeat 75 = .ok (.istore 4, 2) := by decide +kernel
theorem dX4_mostPayingSeat_77 : decode cX4_mostPayingSeat 77 = .ok (.iinc 5 1, 3) := by decide +kernel
theorem dX4_mostPayingSeat_80 : decode cX4_mostPayingSeat 80 = .ok (.goto (-68), 3) := by decide +kernel
theorem dX4_mostPayingSeat_83 : decode cX4_mostPayingSeat 83 = .ok (.iload_n 3, 1) := by decide +kernel
theorem dX4_mostPayingSeat_84 : decode cX4_mostPayingSeat 84 = .ok (.ireturn, 1) := by decide +kernel
theorem dX4_whyNotSeat_0 : decode cX4_whyNotSeat 0 = .ok (.aload_n 1, 1) := by decide +kernel
theorem dX4_whyNotSeat_1 : decode cX4_whyNotSeat 1 = .ok (.getfield 108, 3) := by decide +kernel
theorem dX4_whyNotSeat_4 : decode cX4_whyNotSeat 4 = .ok (.ifCond .ne 5, 3) := by decide +kernel
theorem dX4_whyNotSeat_7 : decode cX4_whyNotSeat 7 = .ok (.iconst 1, 1) := by decide +kernel
theorem dX4_whyNotSeat_8 : decode cX4_whyNotSeat 8 = .ok (.ireturn, 1) := by decide +kernel
theorem dX4_whyNotSeat_9 : decode cX4_whyNotSeat 9 = .ok (.aload_n 2, 1) := by decide +kernel
theorem dX4_whyNotSeat_10 : decode cX4_whyNotSeat 10 = .ok (.iload_n 3, 1) := by decide +kernel
theorem dX4_whyNotSeat_11 : decode cX4_whyNotSeat 11 = .ok (.invokevirtual 158, 3) := by decide +kernel
theorem dX4_whyNotSeat_14 : decode cX4_whyNotSeat 14 = .ok (.ifCond .ne 5, 3) := by decide +kernel
theorem dX4_whyNotSeat_17 : decode cX4_whyNotSeat 17 = .ok (.iconst 2, 1) := by decide +kernel
theorem dX4_whyNotSeat_18 : decode cX4_whyNotSeat 18 = .ok (.ireturn, 1) := by decide +kernel
theorem dX4_whyNotSeat_19 : decode cX4_whyNotSeat 19 = .ok (.aload_n 1, 1) := by decide +kernel
theorem dX4_whyNotSeat_20 : decode cX4_whyNotSeat 20 = .ok (.getfield 102, 3) := by decide +kernel
theorem dX4_whyNotSeat_23 : decode cX4_whyNotSeat 23 = .ok (.aload_n 0, 1) := by decide +kernel
theorem dX4_whyNotSeat_24 : decode cX4_whyNotSeat 24 = .ok (.aload_n 2, 1) := by decide +kernel
theorem dX4_whyNotSeat_25 : decode cX4_whyNotSeat 25 = .ok (.iload_n 3, 1) := by decide +kernel
theorem dX4_whyNotSeat_26 : decode cX4_whyNotSeat 26 = .ok (.invokevirtual 169, 3) := by decide +kernel
theorem dX4_whyNotSeat_29 : decode cX4_whyNotSeat 29 = .ok (.if_icmp .ge 5, 3) := by decide +kernel
theorem dX4_whyNotSeat_32 : decode cX4_whyNotSeat 32 = .ok (.iconst 3, 1) := by decide +kernel
theorem dX4_whyNotSeat_33 : decode cX4_whyNotSeat 33 = .ok (.ireturn, 1) := by decide +kernel
theorem dX4_whyNotSeat_34 : decode cX4_whyNotSeat 34 = .ok (.aload_n 2, 1) := by decide +kernel
theorem dX4_whyNotSeat_35 : decode cX4_whyNotSeat 35 = .ok (.aload_n 0, 1) := by decide +kernel
theorem dX4_whyNotSeat_36 : decode cX4_whyNotSeat 36 = .ok (.aload_n 1, 1) := by decide +kernel
theorem dX4_whyNotSeat_37 : decode cX4_whyNotSeat 37 = .ok (.aload_n 2, 1) := by decide +kernel
theorem dX4_whyNotSeat_38 : decode cX4_whyNotSeat 38 = .ok (.iload_n 3, 1) := by decide +kernel
theorem dX4_whyNotSeat_39 : decode cX4_whyNotSeat 39 = .ok (.invokevirtual 162, 3) := by decide +kernel
theorem dX4_whyNotSeat_42 : decode cX4_whyNotSeat 42 = .ok (.invokevirtual 172, 3) := by decide +kernel
theorem dX4_whyNotSeat_45 : decode cX4_whyNotSeat 45 = .ok (.ifCond .eq 7, 3) := by decide +kernel
theorem dX4_whyNotSeat_48 : decode cX4_whyNotSeat 48 = .ok (.iconst 4, 1) := by decide +kernel
theorem dX4_whyNotSeat_49 : decode cX4_whyNotSeat 49 = .ok (.goto 4, 3) := by decide +kernel
theorem dX4_whyNotSeat_52 : decode cX4_whyNotSeat 52 = .ok (.iconst 0, 1) := by decide +kernel
theorem dX4_whyNotSeat_53 : decode cX4_whyNotSeat 53 = .ok (.ireturn, 1) := by decide +kernel
theorem dX4_torqueAfterMove_0 : decode cX4_torqueAfterMove 0 = .ok (.aload_n 0, 1) := by decide +kernel
theorem dX4_torqueAfterMove_1 : decode cX4_torqueAfterMove 1 = .ok (.aload_n 2, 1) := by decide +kernel
theorem dX4_torqueAfterMove_2 : decode cX4_torqueAfterMove 2 = .ok (.invokevirtual 122, 3) := by decide +kernel
theorem dX4_torqueAfterMove_5 : decode cX4_torqueAfterMove 5 = .ok (.iload_n 3, 1) := by decide +kernel
theorem dX4_torqueAfterMove_6 : decode cX4_torqueAfterMove 6 = .ok (.aload_n 1, 1) := by decide +kernel
theorem dX4_torqueAfterMove_7 : decode cX4_torqueAfterMove 7 = .ok (.getfield 99, 3) := by decide +kernel
theorem dX4_torqueAfterMove_10 : decode cX4_torqueAfterMove 10 = .ok (.imul, 1) := by decide +kernel
theorem dX4_torqueAfterMove_11 : decode cX4_torqueAfterMove 11 = .ok (.iadd, 1) := by decide +kernel
theorem dX4_torqueAfterMove_12 : decode cX4_torqueAfterMove 12 = .ok (.istore 4, 2) := by decide +kernel
theorem dX4_torqueAfterMove_14 : decode cX4_torqueAfterMove 14 = .ok (.aload_n 1, 1) := by decide +kernel
theorem dX4_torqueAfterMove_15 : decode cX4_torqueAfterMove 15 = .ok (.getfield 112, 3) := by decide +kernel
theorem dX4_torqueAfterMove_18 : decode cX4_torqueAfterMove 18 = .ok (.aload_n 2, 1) := by decide +kernel
theorem dX4_torqueAfterMove_19 : decode cX4_torqueAfterMove 19 = .ok (.getfield 121, 3) := by decide +kernel
theorem dX4_torqueAfterMove_22 : decode cX4_torqueAfterMove 22 = .ok (.if_icmp .ne 18, 3) := by decide +kernel
theorem dX4_torqueAfterMove_25 : decode cX4_torqueAfterMove 25 = .ok (.iload 4, 2) := by decide +kernel
theorem dX4_torqueAfterMove_27 : decode cX4_torqueAfterMove 27 = .ok (.aload_n 1, 1) := by decide +kernel
theorem dX4_torqueAfterMove_28 : decode cX4_torqueAfterMove 28 = .ok (.getfield 115, 3) := by decide +kernel
theorem dX4_torqueAfterMove_31 : decode cX4_torqueAfterMove 31 = .ok (.aload_n 1, 1) := by decide +kernel
theorem dX4_torqueAfterMove_32 : decode cX4_torqueAfterMove 32 = .ok (.getfield 99, 3) := by decide +kernel
theorem dX4_torqueAfterMove_35 : decode cX4_torqueAfterMove 35 = .ok (.imul, 1) := by decide +kernel
theorem dX4_torqueAfterMove_36 : decode cX4_torqueAfterMove 36 = .ok (.isub, 1) := by decide +kernel
theorem dX4_torqueAfterMove_37 : decode cX4_torqueAfterMove 37 = .ok (.goto 5, 3) := by decide +kernel
theorem dX4_torqueAfterMove_40 : decode cX4_torqueAfterMove 40 = .ok (.iload 4, 2) := by decide +kernel
theorem dX4_torqueAfterMove_42 : decode cX4_torqueAfterMove 42 = .ok (.ireturn, 1) := by decide +kernel
theorem dX4_whyNotSale_0 : decode cX4_whyNotSale 0 = .ok (.aload_n 0, 1) := by decide +kernel
theorem dX4_whyNotSale_1 : decode cX4_whyNotSale 1 = .ok (.aload_n 1, 1) := by decide +kernel
theorem dX4_whyNotSale_2 : decode cX4_whyNotSale 2 = .ok (.getfield 112, 3) := by decide +kernel
theorem dX4_whyNotSale_5 : decode cX4_whyNotSale 5 = .ok (.invokevirtual 143, 3) := by decide +kernel
theorem dX4_whyNotSale_8 : decode cX4_whyNotSale 8 = .ok (.astore 4, 2) := by decide +kernel
theorem dX4_whyNotSale_10 : decode cX4_whyNotSale 10 = .ok (.aload 4, 2) := by decide +kernel
theorem dX4_whyNotSale_12 : decode cX4_whyNotSale 12 = .ok (.ifnull 10, 3) := by decide +kernel
theorem dX4_whyNotSale_15 : decode cX4_whyNotSale 15 = .ok (.aload_n 2, 1) := by decide +kernel
theorem dX4_whyNotSale_16 : decode cX4_whyNotSale 16 = .ok (.invokevirtual 147, 3) := by decide +kernel
theorem dX4_whyNotSale_19 : decode cX4_whyNotSale 19 = .ok (.ifCond .ne 5, 3) := by decide +kernel
theorem dX4_whyNotSale_22 : decode cX4_whyNotSale 22 = .ok (.iconst 5, 1) := by decide +kernel
theorem dX4_whyNotSale_23 : decode cX4_whyNotSale 23 = .ok (.ireturn, 1) := by decide +kernel
theorem dX4_whyNotSale_24 : decode cX4_whyNotSale 24 = .ok (.aload_n 1, 1) := by decide +kernel
theorem dX4_whyNotSale_25 : decode cX4_whyNotSale 25 = .ok (.getfield 112, 3) := by decide +kernel
theorem dX4_whyNotSale_28 : decode cX4_whyNotSale 28 = .ok (.aload_n 2, 1) := by decide +kernel
theorem dX4_whyNotSale_29 : decode cX4_whyNotSale 29 = .ok (.getfield 112, 3) := by decide +kernel
theorem dX4_whyNotSale_32 : decode cX4_whyNotSale 32 = .ok (.if_icmp .eq 6, 3) := by decide +kernel
theorem dX4_whyNotSale_35 : decode cX4_whyNotSale 35 = .ok (.bipush 6, 2) := by decide +kernel
theorem dX4_whyNotSale_37 : decode cX4_whyNotSale 37 = .ok (.ireturn, 1) := by decide +kernel
theorem dX4_whyNotSale_38 : decode cX4_whyNotSale 38 = .ok (.aload_n 1, 1) := by decide +kernel
theorem dX4_whyNotSale_39 : decode cX4_whyNotSale 39 = .ok (.getfield 99, 3) := by decide +kernel
theorem dX4_whyNotSale_42 : decode cX4_whyNotSale 42 = .ok (.iload_n 3, 1) := by decide +kernel
theorem dX4_whyNotSale_43 : decode cX4_whyNotSale 43 = .ok (.isub, 1) := by decide +kernel
theorem dX4_whyNotSale_44 : decode cX4_whyNotSale 44 = .ok (.iconst 1, 1) := by decide +kernel
theorem dX4_whyNotSale_45 : decode cX4_whyNotSale 45 = .ok (.if_icmp .lt 14, 3) := by decide +kernel
theorem dX4_whyNotSale_48 : decode cX4_whyNotSale 48 = .ok (.aload_n 2, 1) := by decide +kernel
theorem dX4_whyNotSale_49 : decode cX4_whyNotSale 49 = .ok (.getfield 99, 3) := by decide +kernel
theorem dX4_whyNotSale_52 : decode cX4_whyNotSale 52 = .ok (.iload_n 3, 1) := by decide +kernel
theorem dX4_whyNotSale_53 : decode cX4_whyNotSale 53 = .ok (.iadd, 1) := by decide +kernel
theorem dX4_whyNotSale_54 : decode cX4_whyNotSale 54 = .ok (.bipush 99, 2) := by decide +kernel
theorem dX4_whyNotSale_56 : decode cX4_whyNotSale 56 = .ok (.if_icmp .le 6, 3) := by decide +kernel
theorem dX4_whyNotSale_59 : decode cX4_whyNotSale 59 = .ok (.bipush 7, 2) := by decide +kernel
theorem dX4_whyNotSale_61 : decode cX4_whyNotSale 61 = .ok (.ireturn, 1) := by decide +kernel
theorem dX4_whyNotSale_62 : decode cX4_whyNotSale 62 = .ok (.aload_n 2, 1) := by decide +kernel
theorem dX4_whyNotSale_63 : decode cX4_whyNotSale 63 = .ok (.getfield 102, 3) := by decide +kernel
theorem dX4_whyNotSale_66 : decode cX4_whyNotSale 66 = .ok (.iload_n 3, 1) := by decide +kernel
theorem dX4_whyNotSale_67 : decode cX4_whyNotSale 67 = .ok (.aload_n 0, 1) := by decide +kernel
theorem dX4_whyNotSale_68 : decode cX4_whyNotSale 68 = .ok (.aload_n 1, 1) := by decide +kernel
theorem dX4_whyNotSale_69 : decode cX4_whyNotSale 69 = .ok (.aload_n 2, 1) := by decide +kernel
theorem dX4_whyNotSale_70 : decode cX4_whyNotSale 70 = .ok (.invokevirtual 175, 3) := by decide +kernel
theorem dX4_whyNotSale_73 : decode cX4_whyNotSale 73 = .ok (.imul, 1) := by decide +kernel
theorem dX4_whyNotSale_74 : decode cX4_whyNotSale 74 = .ok (.if_icmp .ge 5, 3) := by decide +kernel
theorem dX4_whyNotSale_77 : decode cX4_whyNotSale 77 = .ok (.iconst 3, 1) := by decide +kernel
theorem dX4_whyNotSale_78 : decode cX4_whyNotSale 78 = .ok (.ireturn, 1) := by decide +kernel
theorem dX4_whyNotSale_79 : decode cX4_whyNotSale 79 = .ok (.aload_n 0, 1) := by decide +kernel
theorem dX4_whyNotSale_80 : decode cX4_whyNotSale 80 = .ok (.aload 4, 2) := by decide +kernel
theorem dX4_whyNotSale_82 : decode cX4_whyNotSale 82 = .ok (.invokevirtual 122, 3) := by decide +kernel
theorem dX4_whyNotSale_85 : decode cX4_whyNotSale 85 = .ok (.iload_n 3, 1) := by decide +kernel
theorem dX4_whyNotSale_86 : decode cX4_whyNotSale 86 = .ok (.aload_n 2, 1) := by decide +kernel
theorem dX4_whyNotSale_87 : decode cX4_whyNotSale 87 = .ok (.getfield 115, 3) := by decide +kernel
theorem dX4_whyNotSale_90 : decode cX4_whyNotSale 90 = .ok (.aload_n 1, 1) := by decide +kernel
theorem dX4_whyNotSale_91 : decode cX4_whyNotSale 91 = .ok (.getfield 115, 3) := by decide +kernel
theorem dX4_whyNotSale_94 : decode cX4_whyNotSale 94 = .ok (.isub, 1) := by decide +kernel
theorem dX4_whyNotSale_95 : decode cX4_whyNotSale 95 = .ok (.imul, 1) := by decide +kernel
theorem dX4_whyNotSale_96 : decode cX4_whyNotSale 96 = .ok (.iadd, 1) := by decide +kernel
theorem dX4_whyNotSale_97 : decode cX4_whyNotSale 97 = .ok (.istore 5, 2) := by decide +kernel
theorem dX4_whyNotSale_99 : decode cX4_whyNotSale 99 = .ok (.aload 4, 2) := by decide +kernel
theorem dX4_whyNotSale_101 : decode cX4_whyNotSale 101 = .ok (.iload 5, 2) := by decide +kernel
theorem dX4_whyNotSale_103 : decode cX4_whyNotSale 103 = .ok (.invokevirtual 172, 3) := by decide +kernel
theorem dX4_whyNotSale_106 : decode cX4_whyNotSale 106 = .ok (.ifCond .eq 7, 3) := by decide +kernel
theorem dX4_whyNotSale_109 : decode cX4_whyNotSale 109 = .ok (.iconst 4, 1) := by decide +kernel
theorem dX4_whyNotSale_110 : decode cX4_whyNotSale 110 = .ok (.goto 4, 3) := by decide +kernel
theorem dX4_whyNotSale_113 : decode cX4_whyNotSale 113 = .ok (.iconst 0, 1) := by decide +kernel
theorem dX4_whyNotSale_114 : decode cX4_whyNotSale 114 = .ok (.ireturn, 1) := by decide +kernel
theorem dX4_whyNotSwap_0 : decode cX4_whyNotSwap 0 = .ok (.aload_n 0, 1) := by decide +kernel
theorem dX4_whyNotSwap_1 : decode cX4_whyNotSwap 1 = .ok (.aload_n 1, 1) := by decide +kernel
theorem dX4_whyNotSwap_2 : decode cX4_whyNotSwap 2 = .ok (.getfield 112, 3) := by decide +kernel
theorem dX4_whyNotSwap_5 : decode cX4_whyNotSwap 5 = .ok (.invokevirtual 143, 3) := by decide +kernel
theorem dX4_whyNotSwap_8 : decode cX4_whyNotSwap 8 = .ok (.astore_n 3, 1) := by decide +kernel
theorem dX4_whyNotSwap_9 : decode cX4_whyNotSwap 9 = .ok (.aload_n 0, 1) := by decide +kernel
theorem dX4_whyNotSwap_10 : decode cX4_whyNotSwap 10 = .ok (.aload_n 2, 1) := by decide +kernel
theorem dX4_whyNotSwap_11 : decode cX4_whyNotSwap 11 = .ok (.getfield 112, 3) := by decide +kernel
theorem dX4_whyNotSwap_14 : decode cX4_whyNotSwap 14 = .ok (.invokevirtual 143, 3) := by decide +kernel
theorem dX4_whyNotSwap_17 : decode cX4_whyNotSwap 17 = .ok (.astore 4, 2) := by decide +kernel
theorem dX4_whyNotSwap_19 : decode cX4_whyNotSwap 19 = .ok (.aload_n 3, 1) := by decide +kernel
theorem dX4_whyNotSwap_20 : decode cX4_whyNotSwap 20 = .ok (.ifnull 8, 3) := by decide +kernel
theorem dX4_whyNotSwap_23 : decode cX4_whyNotSwap 23 = .ok (.aload 4, 2) := by decide +kernel
theorem dX4_whyNotSwap_25 : decode cX4_whyNotSwap 25 = .ok (.ifnonnull 5, 3) := by decide +kernel
theorem dX4_whyNotSwap_28 : decode cX4_whyNotSwap 28 = .ok (.iconst 5, 1) := by decide +kernel
theorem dX4_whyNotSwap_29 : decode cX4_whyNotSwap 29 = .ok (.ireturn, 1) := by decide +kernel
theorem dX4_whyNotSwap_30 : decode cX4_whyNotSwap 30 = .ok (.aload_n 0, 1) := by decide +kernel
theorem dX4_whyNotSwap_31 : decode cX4_whyNotSwap 31 = .ok (.aload_n 2, 1) := by decide +kernel
theorem dX4_whyNotSwap_32 : decode cX4_whyNotSwap 32 = .ok (.invokevirtual 151, 3) := by decide +kernel
theorem dX4_whyNotSwap_35 : decode cX4_whyNotSwap 35 = .ok (.aload_n 0, 1) := by decide +kernel
theorem dX4_whyNotSwap_36 : decode cX4_whyNotSwap 36 = .ok (.aload_n 1, 1) := by decide +kernel
theorem dX4_whyNotSwap_37 : decode cX4_whyNotSwap 37 = .ok (.invokevirtual 151, 3) := by decide +kernel
theorem dX4_whyNotSwap_40 : decode cX4_whyNotSwap 40 = .ok (.isub, 1) := by decide +kernel
theorem dX4_whyNotSwap_41 : decode cX4_whyNotSwap 41 = .ok (.istore 5, 2) := by decide +kernel
theorem dX4_whyNotSwap_43 : decode cX4_whyNotSwap 43 = .ok (.aload_n 1, 1) := by decide +kernel
theorem dX4_whyNotSwap_44 : decode cX4_whyNotSwap 44 = .ok (.getfield 102, 3) := by decide +kernel
theorem dX4_whyNotSwap_47 : decode cX4_whyNotSwap 47 = .ok (.iload 5, 2) := by decide +kernel
theorem dX4_whyNotSwap_49 : decode cX4_whyNotSwap 49 = .ok (.if_icmp .lt 13, 3) := by decide +kernel
theorem dX4_whyNotSwap_52 : decode cX4_whyNotSwap 52 = .ok (.aload_n 2, 1) := by decide +kernel
theorem dX4_whyNotSwap_53 : decode cX4_whyNotSwap 53 = .ok (.getfield 102, 3) := by decide +kernel
theorem dX4_whyNotSwap_56 : decode cX4_whyNotSwap 56 = .ok (.iload 5, 2) := by decide +kernel
theorem dX4_whyNotSwap_58 : decode cX4_whyNotSwap 58 = .ok (.ineg, 1) := by decide +kernel
theorem dX4_whyNotSwap_59 : decode cX4_whyNotSwap 59 = .ok (.if_icmp .ge 5, 3) := by decide +kernel
theorem dX4_whyNotSwap_62 : decode cX4_whyNotSwap 62 = .ok (.iconst 3, 1) := by decide +kernel
theorem dX4_whyNotSwap_63 : decode cX4_whyNotSwap 63 = .ok (.ireturn, 1) := by decide +kernel
theorem dX4_whyNotSwap_64 : decode cX4_whyNotSwap 64 = .ok (.aload_n 0, 1) := by decide +kernel
theorem dX4_whyNotSwap_65 : decode cX4_whyNotSwap 65 = .ok (.aload_n 3, 1) := by decide +kernel
theorem dX4_whyNotSwap_66 : decode cX4_whyNotSwap 66 = .ok (.aload_n 1, 1) := by decide +kernel
theorem dX4_whyNotSwap_67 : decode cX4_whyNotSwap 67 = .ok (.aload_n 2, 1) := by decide +kernel
theorem dX4_whyNotSwap_68 : decode cX4_whyNotSwap 68 = .ok (.invokevirtual 179, 3) := by decide +kernel
theorem dX4_whyNotSwap_71 : decode cX4_whyNotSwap 71 = .ok (.ifCond .ne 14, 3) := by decide +kernel
theorem dX4_whyNotSwap_74 : decode cX4_whyNotSwap 74 = .ok (.aload_n 0, 1) := by decide +kernel
theorem dX4_whyNotSwap_75 : decode cX4_whyNotSwap 75 = .ok (.aload 4, 2) := by decide +kernel
theorem dX4_whyNotSwap_77 : decode cX4_whyNotSwap 77 = .ok (.aload_n 1, 1) := by decide +kernel
theorem dX4_whyNotSwap_78 : decode cX4_whyNotSwap 78 = .ok (.aload_n 2, 1) := by decide +kernel
theorem dX4_whyNotSwap_79 : decode cX4_whyNotSwap 79 = .ok (.invokevirtual 179, 3) := by decide +kernel
theorem dX4_whyNotSwap_82 : decode cX4_whyNotSwap 82 = .ok (.ifCond .eq 7, 3) := by decide +kernel
theorem dX4_whyNotSwap_85 : decode cX4_whyNotSwap 85 = .ok (.iconst 4, 1) := by decide +kernel
theorem dX4_whyNotSwap_86 : decode cX4_whyNotSwap 86 = .ok (.goto 4, 3) := by decide +kernel
theorem dX4_whyNotSwap_89 : decode cX4_whyNotSwap 89 = .ok (.iconst 0, 1) := by decide +kernel
theorem dX4_whyNotSwap_90 : decode cX4_whyNotSwap 90 = .ok (.ireturn, 1) := by decide +kernel
theorem dX4_tipsAfterSwap_0 : decode cX4_tipsAfterSwap 0 = .ok (.aload_n 0, 1) := by decide +kernel
theorem dX4_tipsAfterSwap_1 : decode cX4_tipsAfterSwap 1 = .ok (.aload_n 1, 1) := by decide +kernel
theorem dX4_tipsAfterSwap_2 : decode cX4_tipsAfterSwap 2 = .ok (.invokevirtual 122, 3) := by decide +kernel
theorem dX4_tipsAfterSwap_5 : decode cX4_tipsAfterSwap 5 = .ok (.istore 4, 2) := by decide +kernel
theorem dX4_tipsAfterSwap_7 : decode cX4_tipsAfterSwap 7 = .ok (.aload_n 2, 1) := by decide +kernel
theorem dX4_tipsAfterSwap_8 : decode cX4_tipsAfterSwap 8 = .ok (.getfield 112, 3) := by decide +kernel
theorem dX4_tipsAfterSwap_11 : decode cX4_tipsAfterSwap 11 = .ok (.aload_n 1, 1) := by decide +kernel
theorem dX4_tipsAfterSwap_12 : decode cX4_tipsAfterSwap 12 = .ok (.getfield 121, 3) := by decide +kernel
theorem dX4_tipsAfterSwap_15 : decode cX4_tipsAfterSwap 15 = .ok (.if_icmp .ne 22, 3) := by decide +kernel
theorem dX4_tipsAfterSwap_18 : decode cX4_tipsAfterSwap 18 = .ok (.iload 4, 2) := by decide +kernel
theorem dX4_tipsAfterSwap_20 : decode cX4_tipsAfterSwap 20 = .ok (.aload_n 2, 1) := by decide +kernel
theorem dX4_tipsAfterSwap_21 : decode cX4_tipsAfterSwap 21 = .ok (.getfield 115, 3) := by decide +kernel
theorem dX4_tipsAfterSwap_24 : decode cX4_tipsAfterSwap 24 = .ok (.aload_n 3, 1) := by decide +kernel
theorem dX4_tipsAfterSwap_25 : decode cX4_tipsAfterSwap 25 = .ok (.getfield 99, 3) := by decide +kernel
theorem dX4_tipsAfterSwap_28 : decode cX4_tipsAfterSwap 28 = .ok (.aload_n 2, 1) := by decide +kernel
theorem dX4_tipsAfterSwap_29 : decode cX4_tipsAfterSwap 29 = .ok (.getfield 99, 3) := by decide +kernel
theorem dX4_tipsAfterSwap_32 : decode cX4_tipsAfterSwap 32 = .ok (.isub, 1) := by decide +kernel
theorem dX4_tipsAfterSwap_33 : decode cX4_tipsAfterSwap 33 = .ok (.imul, 1) := by decide +kernel
theorem dX4_tipsAfterSwap_34 : decode cX4_tipsAfterSwap 34 = .ok (.iadd, 1) := by decide +kernel
theorem dX4_tipsAfterSwap_35 : decode cX4_tipsAfterSwap 35 = .ok (.istore 4, 2) := by decide +kernel
theorem dX4_tipsAfterSwap_37 : decode cX4_tipsAfterSwap 37 = .ok (.aload_n 3, 1) := by decide +kernel
theorem dX4_tipsAfterSwap_38 : decode cX4_tipsAfterSwap 38 = .ok (.getfield 112, 3) := by decide +kernel
theorem dX4_tipsAfterSwap_41 : decode cX4_tipsAfterSwap 41 = .ok (.aload_n 1, 1) := by decide +kernel
theorem dX4_tipsAfterSwap_42 : decode cX4_tipsAfterSwap 42 = .ok (.getfield 121, 3) := by decide +kernel
theorem dX4_tipsAfterSwap_45 : decode cX4_tipsAfterSwap 45 = .ok (.if_icmp .ne 22, 3) := by decide +kernel
theorem dX4_tipsAfterSwap_48 : decode cX4_tipsAfterSwap 48 = .ok (.iload 4, 2) := by decide +kernel
theorem dX4_tipsAfterSwap_50 : decode cX4_tipsAfterSwap 50 = .ok (.aload_n 3, 1) := by decide +kernel
theorem dX4_tipsAfterSwap_51 : decode cX4_tipsAfterSwap 51 = .ok (.getfield 115, 3) := by decide +kernel
theorem dX4_tipsAfterSwap_54 : decode cX4_tipsAfterSwap 54 = .ok (.aload_n 2, 1) := by decide +kernel
theorem dX4_tipsAfterSwap_55 : decode cX4_tipsAfterSwap 55 = .ok (.getfield 99, 3) := by decide +kernel
theorem dX4_tipsAfterSwap_58 : decode cX4_tipsAfterSwap 58 = .ok (.aload_n 3, 1) := by decide +kernel
theorem dX4_tipsAfterSwap_59 : decode cX4_tipsAfterSwap 59 = .ok (.getfield 99, 3) := by decide +kernel
theorem dX4_tipsAfterSwap_62 : decode cX4_tipsAfterSwap 62 = .ok (.isub, 1) := by decide +kernel
theorem dX4_tipsAfterSwap_63 : decode cX4_tipsAfterSwap 63 = .ok (.imul, 1) := by decide +kernel
theorem dX4_tipsAfterSwap_64 : decode cX4_tipsAfterSwap 64 = .ok (.iadd, 1) := by decide +kernel
theorem dX4_tipsAfterSwap_65 : decode cX4_tipsAfterSwap 65 = .ok (.istore 4, 2) := by decide +kernel
theorem dX4_tipsAfterSwap_67 : decode cX4_tipsAfterSwap 67 = .ok (.aload_n 1, 1) := by decide +kernel
theorem dX4_tipsAfterSwap_68 : decode cX4_tipsAfterSwap 68 = .ok (.iload 4, 2) := by decide +kernel
theorem dX4_tipsAfterSwap_70 : decode cX4_tipsAfterSwap 70 = .ok (.invokevirtual 172, 3) := by decide +kernel
theorem dX4_tipsAfterSwap_73 : decode cX4_tipsAfterSwap 73 = .ok (.ireturn, 1) := by decide +kernel
theorem dX4_seat_0 : decode cX4_seat 0 = .ok (.aload_n 1, 1) := by decide +kernel
theorem dX4_seat_1 : decode cX4_seat 1 = .ok (.aload_n 2, 1) := by decide +kernel
theorem dX4_seat_2 : decode cX4_seat 2 = .ok (.getfield 121, 3) := by decide +kernel
theorem dX4_seat_5 : decode cX4_seat 5 = .ok (.putfield 112, 3) := by decide +kernel
theorem dX4_seat_8 : decode cX4_seat 8 = .ok (.aload_n 1, 1) := by decide +kernel
theorem dX4_seat_9 : decode cX4_seat 9 = .ok (.iload_n 3, 1) := by decide +kernel
theorem dX4_seat_10 : decode cX4_seat 10 = .ok (.putfield 115, 3) := by decide +kernel
theorem dX4_seat_13 : decode cX4_seat 13 = .ok (.aload_n 2, 1) := by decide +kernel
theorem dX4_seat_14 : decode cX4_seat 14 = .ok (.iload_n 3, 1) := by decide +kernel
theorem dX4_seat_15 : decode cX4_seat 15 = .ok (.aload_n 1, 1) := by decide +kernel
theorem dX4_seat_16 : decode cX4_seat 16 = .ok (.getfield 118, 3) := by decide +kernel
theorem dX4_seat_19 : decode cX4_seat 19 = .ok (.invokevirtual 183, 3) := by decide +kernel
theorem dX4_seat_22 : decode cX4_seat 22 = .ok (.return_, 1) := by decide +kernel
theorem dX4_unseat_0 : decode cX4_unseat 0 = .ok (.aload_n 0, 1) := by decide +kernel
theorem dX4_unseat_1 : decode cX4_unseat 1 = .ok (.aload_n 1, 1) := by decide +kernel
theorem dX4_unseat_2 : decode cX4_unseat 2 = .ok (.getfield 112, 3) := by decide +kernel
theorem dX4_unseat_5 : decode cX4_unseat 5 = .ok (.invokevirtual 143, 3) := by decide +kernel
theorem dX4_unseat_8 : decode cX4_unseat 8 = .ok (.astore_n 2, 1) := by decide +kernel
theorem dX4_unseat_9 : decode cX4_unseat 9 = .ok (.aload_n 2, 1) := by decide +kernel
theorem dX4_unseat_10 : decode cX4_unseat 10 = .ok (.ifnull 12, 3) := by decide +kernel
theorem dX4_unseat_13 : decode cX4_unseat 13 = .ok (.aload_n 2, 1) := by decide +kernel
theorem dX4_unseat_14 : decode cX4_unseat 14 = .ok (.aload_n 1, 1) := by decide +kernel
theorem dX4_unseat_15 : decode cX4_unseat 15 = .ok (.getfield 115, 3) := by decide +kernel
theorem dX4_unseat_18 : decode cX4_unseat 18 = .ok (.iconst (-1), 1) := by decide +kernel
theorem dX4_unseat_19 : decode cX4_unseat 19 = .ok (.invokevirtual 183, 3) := by decide +kernel
theorem dX4_unseat_22 : decode cX4_unseat 22 = .ok (.aload_n 1, 1) := by decide +kernel
theorem dX4_unseat_23 : decode cX4_unseat 23 = .ok (.iconst (-1), 1) := by decide +kernel
theorem dX4_unseat_24 : decode cX4_unseat 24 = .ok (.putfield 112, 3) := by decide +kernel
theorem dX4_unseat_27 : decode cX4_unseat 27 = .ok (.aload_n 1, 1) := by decide +kernel
theorem dX4_unseat_28 : decode cX4_unseat 28 = .ok (.iconst 0, 1) := by decide +kernel
theorem dX4_unseat_29 : decode cX4_unseat 29 = .ok (.putfield 115, 3) := by decide +kernel
theorem dX4_unseat_32 : decode cX4_unseat 32 = .ok (.return_, 1) := by decide +kernel
theorem dX4_sellSeat_0 : decode cX4_sellSeat 0 = .ok (.aload_n 0, 1) := by decide +kernel
theorem dX4_sellSeat_1 : decode cX4_sellSeat 1 = .ok (.aload_n 2, 1) := by decide +kernel
theorem dX4_sellSeat_2 : decode cX4_sellSeat 2 = .ok (.iload_n 3, 1) := by decide +kernel
theorem dX4_sellSeat_3 : decode cX4_sellSeat 3 = .ok (.invokevirtual 169, 3) := by decide +kernel
theorem dX4_sellSeat_6 : decode cX4_sellSeat 6 = .ok (.istore 4, 2) := by decide +kernel
theorem dX4_sellSeat_8 : decode cX4_sellSeat 8 = .ok (.aload_n 1, 1) := by decide +kernel
theorem dX4_sellSeat_9 : decode cX4_sellSeat 9 = .ok (.dup, 1) := by decide +kernel
theorem dX4_sellSeat_10 : decode cX4_sellSeat 10 = .ok (.getfield 102, 3) := by decide +kernel
theorem dX4_sellSeat_13 : decode cX4_sellSeat 13 = .ok (.iload 4, 2) := by decide +kernel
theorem dX4_sellSeat_15 : decode cX4_sellSeat 15 = .ok (.isub, 1) := by decide +kernel
theorem dX4_sellSeat_16 : decode cX4_sellSeat 16 = .ok (.putfield 102, 3) := by decide +kernel
theorem dX4_sellSeat_19 : decode cX4_sellSeat 19 = .ok (.aload_n 0, 1) := by decide +kernel
theorem dX4_sellSeat_20 : decode cX4_sellSeat 20 = .ok (.dup, 1) := by decide +kernel
theorem dX4_sellSeat_21 : decode cX4_sellSeat 21 = .ok (.getfield 56, 3) := by decide +kernel
theorem dX4_sellSeat_24 : decode cX4_sellSeat 24 = .ok (.iload 4, 2) := by decide +kernel
theorem dX4_sellSeat_26 : decode cX4_sellSeat 26 = .ok (.iadd, 1) := by decide +kernel
theorem dX4_sellSeat_27 : decode cX4_sellSeat 27 = .ok (.putfield 56, 3) := by decide +kernel
theorem dX4_sellSeat_30 : decode cX4_sellSeat 30 = .ok (.aload_n 0, 1) := by decide +kernel
theorem dX4_sellSeat_31 : decode cX4_sellSeat 31 = .ok (.aload_n 1, 1) := by decide +kernel
theorem dX4_sellSeat_32 : decode cX4_sellSeat 32 = .ok (.invokevirtual 187, 3) := by decide +kernel
theorem dX4_sellSeat_35 : decode cX4_sellSeat 35 = .ok (.aload_n 0, 1) := by decide +kernel
theorem dX4_sellSeat_36 : decode cX4_sellSeat 36 = .ok (.aload_n 1, 1) := by decide +kernel
theorem dX4_sellSeat_37 : decode cX4_sellSeat 37 = .ok (.aload_n 2, 1) := by decide +kernel
theorem dX4_sellSeat_38 : decode cX4_sellSeat 38 = .ok (.iload_n 3, 1) := by decide +kernel
theorem dX4_sellSeat_39 : decode cX4_sellSeat 39 = .ok (.invokevirtual 190, 3) := by decide +kernel
theorem dX4_sellSeat_42 : decode cX4_sellSeat 42 = .ok (.aload_n 0, 1) := by decide +kernel
theorem dX4_sellSeat_43 : decode cX4_sellSeat 43 = .ok (.dup, 1) := by decide +kernel
theorem dX4_sellSeat_44 : decode cX4_sellSeat 44 = .ok (.getfield 38, 3) := by decide +kernel
theorem dX4_sellSeat_47 : decode cX4_sellSeat 47 = .ok (.iconst 1, 1) := by decide +kernel
theorem dX4_sellSeat_48 : decode cX4_sellSeat 48 = .ok (.iadd, 1) := by decide +kernel
theorem dX4_sellSeat_49 : decode cX4_sellSeat 49 = .ok (.putfield 38, 3) := by decide +kernel
theorem dX4_sellSeat_52 : decode cX4_sellSeat 52 = .ok (.iload 4, 2) := by decide +kernel
theorem dX4_sellSeat_54 : decode cX4_sellSeat 54 = .ok (.ireturn, 1) := by decide +kernel
theorem dX4_moveWeight_0 : decode cX4_moveWeight 0 = .ok (.iload_n 3, 1) := by decide +kernel
theorem dX4_moveWeight_1 : decode cX4_moveWeight 1 = .ok (.aload_n 0, 1) := by decide +kernel
theorem dX4_moveWeight_2 : decode cX4_moveWeight 2 = .ok (.aload_n 1, 1) := by decide +kernel
theorem dX4_moveWeight_3 : decode cX4_moveWeight 3 = .ok (.aload_n 2, 1) := by decide +kernel
theorem dX4_moveWeight_4 : decode cX4_moveWeight 4 = .ok (.invokevirtual 175, 3) := by decide +kernel
theorem dX4_moveWeight_7 : decode cX4_moveWeight 7 = .ok (.imul, 1) := by decide +kernel
theorem dX4_moveWeight_8 : decode cX4_moveWeight 8 = .ok (.istore 4, 2) := by decide +kernel
theorem dX4_moveWeight_10 : decode cX4_moveWeight 10 = .ok (.aload_n 2, 1) := by decide +kernel
theorem dX4_moveWeight_11 : decode cX4_moveWeight 11 = .ok (.dup, 1) := by decide +kernel
theorem dX4_moveWeight_12 : decode cX4_moveWeight 12 = .ok (.getfield 102, 3) := by decide +kernel
theorem dX4_moveWeight_15 : decode cX4_moveWeight 15 = .ok (.iload 4, 2) := by decide +kernel
theorem dX4_moveWeight_17 : decode cX4_moveWeight 17 = .ok (.isub, 1) := by decide +kernel
theorem dX4_moveWeight_18 : decode cX4_moveWeight 18 = .ok (.putfield 102, 3) := by decide +kernel
theorem dX4_moveWeight_21 : decode cX4_moveWeight 21 = .ok (.aload_n 1, 1) := by decide +kernel
theorem dX4_moveWeight_22 : decode cX4_moveWeight 22 = .ok (.dup, 1) := by decide +kernel
theorem dX4_moveWeight_23 : decode cX4_moveWeight 23 = .ok (.getfield 102, 3) := by decide +kernel
theorem dX4_moveWeight_26 : decode cX4_moveWeight 26 = .ok (.iload 4, 2) := by decide +kernel
theorem dX4_moveWeight_28 : decode cX4_moveWeight 28 = .ok (.iadd, 1) := by decide +kernel
theorem dX4_moveWeight_29 : decode cX4_moveWeight 29 = .ok (.putfield 102, 3) := by decide +kernel
theorem dX4_moveWeight_32 : decode cX4_moveWeight 32 = .ok (.aload_n 1, 1) := by decide +kernel
theorem dX4_moveWeight_33 : decode cX4_moveWeight 33 = .ok (.dup, 1) := by decide +kernel
theorem dX4_moveWeight_34 : decode cX4_moveWeight 34 = .ok (.getfield 99, 3) := by decide +kernel
theorem dX4_moveWeight_37 : decode cX4_moveWeight 37 = .ok (.iload_n 3, 1) := by decide +kernel
theorem dX4_moveWeight_38 : decode cX4_moveWeight 38 = .ok (.isub, 1) := by decide +kernel
theorem dX4_moveWeight_39 : decode cX4_moveWeight 39 = .ok (.putfield 99, 3) := by decide +kernel
theorem dX4_moveWeight_42 : decode cX4_moveWeight 42 = .ok (.aload_n 2, 1) := by decide +kernel
theorem dX4_moveWeight_43 : decode cX4_moveWeight 43 = .ok (.dup, 1) := by decide +kernel
theorem dX4_moveWeight_44 : decode cX4_moveWeight 44 = .ok (.getfield 99, 3) := by decide +kernel
theorem dX4_moveWeight_47 : decode cX4_moveWeight 47 = .ok (.iload_n 3, 1) := by decide +kernel
theorem dX4_moveWeight_48 : decode cX4_moveWeight 48 = .ok (.iadd, 1) := by decide +kernel
theorem dX4_moveWeight_49 : decode cX4_moveWeight 49 = .ok (.putfield 99, 3) := by decide +kernel
theorem dX4_moveWeight_52 : decode cX4_moveWeight 52 = .ok (.aload_n 0, 1) := by decide +kernel
theorem dX4_moveWeight_53 : decode cX4_moveWeight 53 = .ok (.dup, 1) := by decide +kernel
theorem dX4_moveWeight_54 : decode cX4_moveWeight 54 = .ok (.getfield 41, 3) := by decide +kernel
theorem dX4_moveWeight_57 : decode cX4_moveWeight 57 = .ok (.iload_n 3, 1) := by decide +kernel
theorem dX4_moveWeight_58 : decode cX4_moveWeight 58 = .ok (.iadd, 1) := by decide +kernel
theorem dX4_moveWeight_59 : decode cX4_moveWeight 59 = .ok (.putfield 41, 3) := by decide +kernel
theorem dX4_moveWeight_62 : decode cX4_moveWeight 62 = .ok (.iload 4, 2) := by decide +kernel
theorem dX4_moveWeight_64 : decode cX4_moveWeight 64 = .ok (.ireturn, 1) := by decide +kernel
theorem dX4_exchangeSeats_0 : decode cX4_exchangeSeats 0 = .ok (.aload_n 0, 1) := by decide +kernel
theorem dX4_exchangeSeats_1 : decode cX4_exchangeSeats 1 = .ok (.aload_n 1, 1) := by decide +kernel
theorem dX4_exchangeSeats_2 : decode cX4_exchangeSeats 2 = .ok (.getfield 112, 3) := by decide +kernel
theorem dX4_exchangeSeats_5 : decode cX4_exchangeSeats 5 = .ok (.invokevirtual 143, 3) := by decide +kernel
theorem dX4_exchangeSeats_8 : decode cX4_exchangeSeats 8 = .ok (.astore_n 3, 1) := by decide +kernel
theorem dX4_exchangeSeats_9 : decode cX4_exchangeSeats 9 = .ok (.aload_n 0, 1) := by decide +kernel
theorem dX4_exchangeSeats_10 : decode cX4_exchangeSeats 10 = .ok (.aload_n 2, 1) := by decide +kernel
theorem dX4_exchangeSeats_11 : decode cX4_exchangeSeats 11 = .ok (.getfield 112, 3) := by decide +kernel
theorem dX4_exchangeSeats_14 : decode cX4_exchangeSeats 14 = .ok (.invokevirtual 143, 3) := by decide +kernel
theorem dX4_exchangeSeats_17 : decode cX4_exchangeSeats 17 = .ok (.astore 4, 2) := by decide +kernel
theorem dX4_exchangeSeats_19 : decode cX4_exchangeSeats 19 = .ok (.aload_n 3, 1) := by decide +kernel
theorem dX4_exchangeSeats_20 : decode cX4_exchangeSeats 20 = .ok (.ifnull 8, 3) := by decide +kernel
theorem dX4_exchangeSeats_23 : decode cX4_exchangeSeats 23 = .ok (.aload 4, 2) := by decide +kernel
theorem dX4_exchangeSeats_25 : decode cX4_exchangeSeats 25 = .ok (.ifnonnull 5, 3) := by decide +kernel
theorem dX4_exchangeSeats_28 : decode cX4_exchangeSeats 28 = .ok (.iconst 0, 1) := by decide +kernel
theorem dX4_exchangeSeats_29 : decode cX4_exchangeSeats 29 = .ok (.ireturn, 1) := by decide +kernel
theorem dX4_exchangeSeats_30 : decode cX4_exchangeSeats 30 = .ok (.aload_n 0, 1) := by decide +kernel
theorem dX4_exchangeSeats_31 : decode cX4_exchangeSeats 31 = .ok (.aload_n 2, 1) := by decide +kernel
theorem dX4_exchangeSeats_32 : decode cX4_exchangeSeats 32 = .ok (.invokevirtual 151, 3) := by decide +kernel
theorem dX4_exchangeSeats_35 : decode cX4_exchangeSeats 35 = .ok (.aload_n 0, 1) := by decide +kernel
theorem dX4_exchangeSeats_36 : decode cX4_exchangeSeats 36 = .ok (.aload_n 1, 1) := by decide +kernel
theorem dX4_exchangeSeats_37 : decode cX4_exchangeSeats 37 = .ok (.invokevirtual 151, 3) := by decide +kernel
theorem dX4_exchangeSeats_40 : decode cX4_exchangeSeats 40 = .ok (.isub, 1) := by decide +kernel
theorem dX4_exchangeSeats_41 : decode cX4_exchangeSeats 41 = .ok (.istore 5, 2) := by decide +kernel
theorem dX4_exchangeSeats_43 : decode cX4_exchangeSeats 43 = .ok (.aload_n 1, 1) := by decide +kernel
theorem dX4_exchangeSeats_44 : decode cX4_exchangeSeats 44 = .ok (.getfield 115, 3) := by decide +kernel
theorem dX4_exchangeSeats_47 : decode cX4_exchangeSeats 47 = .ok (.istore 6, 2) := by decide +kernel
theorem dX4_exchangeSeats_49 : decode cX4_exchangeSeats 49 = .ok (.aload_n 1, 1) := by decide +kernel
theorem dX4_exchangeSeats_50 : decode cX4_exchangeSeats 50 = .ok (.dup, 1) := by decide +kernel
theorem dX4_exchangeSeats_51 : decode cX4_exchangeSeats 51 = .ok (.getfield 102, 3) := by decide +kernel
theorem dX4_exchangeSeats_54 : decode cX4_exchangeSeats 54 = .ok (.iload 5, 2) := by decide +kernel
theorem dX4_exchangeSeats_56 : decode cX4_exchangeSeats 56 = .ok (.isub, 1) := by decide +kernel
theorem dX4_exchangeSeats_57 : decode cX4_exchangeSeats 57 = .ok (.putfield 102, 3) := by decide +kernel
theorem dX4_exchangeSeats_60 : decode cX4_exchangeSeats 60 = .ok (.aload_n 2, 1) := by decide +kernel
theorem dX4_exchangeSeats_61 : decode cX4_exchangeSeats 61 = .ok (.dup, 1) := by decide +kernel
theorem dX4_exchangeSeats_62 : decode cX4_exchangeSeats 62 = .ok (.getfield 102, 3) := by decide +kernel
theorem dX4_exchangeSeats_65 : decode cX4_exchangeSeats 65 = .ok (.iload 5, 2) := by decide +kernel
theorem dX4_exchangeSeats_67 : decode cX4_exchangeSeats 67 = .ok (.iadd, 1) := by decide +kernel
theorem dX4_exchangeSeats_68 : decode cX4_exchangeSeats 68 = .ok (.putfield 102, 3) := by decide +kernel
theorem dX4_exchangeSeats_71 : decode cX4_exchangeSeats 71 = .ok (.aload_n 0, 1) := by decide +kernel
theorem dX4_exchangeSeats_72 : decode cX4_exchangeSeats 72 = .ok (.aload_n 1, 1) := by decide +kernel
theorem dX4_exchangeSeats_73 : decode cX4_exchangeSeats 73 = .ok (.aload 4, 2) := by decide +kernel
theorem dX4_exchangeSeats_75 : decode cX4_exchangeSeats 75 = .ok (.aload_n 2, 1) := by decide +kernel
theorem dX4_exchangeSeats_76 : decode cX4_exchangeSeats 76 = .ok (.getfield 115, 3) := by decide +kernel
theorem dX4_exchangeSeats_79 : decode cX4_exchangeSeats 79 = .ok (.invokevirtual 190, 3) := by decide +kernel
theorem dX4_exchangeSeats_82 : decode cX4_exchangeSeats 82 = .ok (.aload_n 0, 1) := by decide +kernel
theorem dX4_exchangeSeats_83 : decode cX4_exchangeSeats 83 = .ok (.aload_n 2, 1) := by decide +kernel
theorem dX4_exchangeSeats_84 : decode cX4_exchangeSeats 84 = .ok (.aload_n 3, 1) := by decide +kernel
theorem dX4_exchangeSeats_85 : decode cX4_exchangeSeats 85 = .ok (.iload 6, 2) := by decide +kernel
theorem dX4_exchangeSeats_87 : decode cX4_exchangeSeats 87 = .ok (.invokevirtual 190, 3) := by decide +kernel
theorem dX4_exchangeSeats_90 : decode cX4_exchangeSeats 90 = .ok (.iload 5, 2) := by decide +kernel
theorem dX4_exchangeSeats_92 : decode cX4_exchangeSeats 92 = .ok (.ireturn, 1) := by decide +kernel
theorem dX4_allowsDays_0 : decode cX4_allowsDays 0 = .ok (.aload_n 0, 1) := by decide +kernel
theorem dX4_allowsDays_1 : decode cX4_allowsDays 1 = .ok (.getfield 34, 3) := by decide +kernel
theorem dX4_allowsDays_4 : decode cX4_allowsDays 4 = .ok (.iload_n 1, 1) := by decide +kernel
theorem dX4_allowsDays_5 : decode cX4_allowsDays 5 = .ok (.iadd, 1) := by decide +kernel
theorem dX4_allowsDays_6 : decode cX4_allowsDays 6 = .ok (.sipush 9999, 3) := by decide +kernel
theorem dX4_allowsDays_9 : decode cX4_allowsDays 9 = .ok (.if_icmp .gt 7, 3) := by decide +kernel
theorem dX4_allowsDays_12 : decode cX4_allowsDays 12 = .ok (.iconst 1, 1) := by decide +kernel
theorem dX4_allowsDays_13 : decode cX4_allowsDays 13 = .ok (.goto 4, 3) := by decide +kernel
theorem dX4_allowsDays_16 : decode cX4_allowsDays 16 = .ok (.iconst 0, 1) := by decide +kernel
theorem dX4_allowsDays_17 : decode cX4_allowsDays 17 = .ok (.ireturn, 1) := by decide +kernel
theorem dX4_passDays_0 : decode cX4_passDays 0 = .ok (.iconst 0, 1) := by decide +kernel
theorem dX4_passDays_1 : decode cX4_passDays 1 = .ok (.istore_n 2, 1) := by decide +kernel
theorem dX4_passDays_2 : decode cX4_passDays 2 = .ok (.iconst 0, 1) := by decide +kernel
theorem dX4_passDays_3 : decode cX4_passDays 3 = .ok (.istore_n 3, 1) := by decide +kernel
theorem dX4_passDays_4 : decode cX4_passDays 4 = .ok (.iload_n 3, 1) := by decide +kernel
theorem dX4_passDays_5 : decode cX4_passDays 5 = .ok (.iload_n 1, 1) := by decide +kernel
theorem dX4_passDays_6 : decode cX4_passDays 6 = .ok (.if_icmp .ge 34, 3) := by decide +kernel
theorem dX4_passDays_9 : decode cX4_passDays 9 = .ok (.aload_n 0, 1) := by decide +kernel
theorem dX4_passDays_10 : decode cX4_passDays 10 = .ok (.dup, 1) := by decide +kernel
theorem dX4_passDays_11 : decode cX4_passDays 11 = .ok (.getfield 34, 3) := by decide +kernel
theorem dX4_passDays_14 : decode cX4_passDays 14 = .ok (.iconst 1, 1) := by decide +kernel
theorem dX4_passDays_15 : decode cX4_passDays 15 = .ok (.iadd, 1) := by decide +kernel
theorem dX4_passDays_16 : decode cX4_passDays 16 = .ok (.putfield 34, 3) := by decide +kernel
theorem dX4_passDays_19 : decode cX4_passDays 19 = .ok (.aload_n 0, 1) := by decide +kernel
theorem dX4_passDays_20 : decode cX4_passDays 20 = .ok (.invokevirtual 194, 3) := by decide +kernel
theorem dX4_passDays_23 : decode cX4_passDays 23 = .ok (.aload_n 0, 1) := by decide +kernel
theorem dX4_passDays_24 : decode cX4_passDays 24 = .ok (.invokevirtual 197, 3) := by decide +kernel
theorem dX4_passDays_27 : decode cX4_passDays 27 = .ok (.iload_n 2, 1) := by decide +kernel
theorem dX4_passDays_28 : decode cX4_passDays 28 = .ok (.aload_n 0, 1) := by decide +kernel
theorem dX4_passDays_29 : decode cX4_passDays 29 = .ok (.invokevirtual 200, 3) := by decide +kernel
theorem dX4_passDays_32 : decode cX4_passDays 32 = .ok (.iadd, 1) := by decide +kernel
theorem dX4_passDays_33 : decode cX4_passDays 33 = .ok (.istore_n 2, 1) := by decide +kernel
theorem dX4_passDays_34 : decode cX4_passDays 34 = .ok (.iinc 3 1, 3) := by decide +kernel
theorem dX4_passDays_37 : decode cX4_passDays 37 = .ok (.goto (-33), 3) := by decide +kernel
theorem dX4_passDays_40 : decode cX4_passDays 40 = .ok (.iload_n 2, 1) := by decide +kernel
theorem dX4_passDays_41 : decode cX4_passDays 41 = .ok (.ireturn, 1) := by decide +kernel
theorem dX4_passDaysUntilFall_0 : decode cX4_passDaysUntilFall 0 = .ok (.iconst 1, 1) := by decide +kernel
theorem dX4_passDaysUntilFall_1 : decode cX4_passDaysUntilFall 1 = .ok (.istore_n 2, 1) := by decide +kernel
theorem dX4_passDaysUntilFall_2 : decode cX4_passDaysUntilFall 2 = .ok (.iload_n 2, 1) := by decide +kernel
theorem dX4_passDaysUntilFall_3 : decode cX4_passDaysUntilFall 3 = .ok (.bipush 100, 2) := by decide +kernel
theorem dX4_passDaysUntilFall_5 : decode cX4_passDaysUntilFall 5 = .ok (.if_icmp .gt 42, 3) := by decide +kernel
theorem dX4_passDaysUntilFall_8 : decode cX4_passDaysUntilFall 8 = .ok (.aload_n 1, 1) := by decide +kernel
theorem dX4_passDaysUntilFall_9 : decode cX4_passDaysUntilFall 9 = .ok (.ifnull 38, 3) := by decide +kernel
theorem dX4_passDaysUntilFall_12 : decode cX4_passDaysUntilFall 12 = .ok (.aload_n 1, 1) := by decide +kernel
theorem dX4_passDaysUntilFall_13 : decode cX4_passDaysUntilFall 13 = .ok (.invokevirtual 147, 3) := by decide +kernel
theorem dX4_passDaysUntilFall_16 : decode cX4_passDaysUntilFall 16 = .ok (.ifCond .eq 31, 3) := by decide +kernel
theorem dX4_passDaysUntilFall_19 : decode cX4_passDaysUntilFall 19 = .ok (.aload_n 0, 1) := by decide +kernel
theorem dX4_passDaysUntilFall_20 : decode cX4_passDaysUntilFall 20 = .ok (.iconst 1, 1) := by decide +kernel
theorem dX4_passDaysUntilFall_21 : decode cX4_passDaysUntilFall 21 = .ok (.invokevirtual 204, 3) := by decide +kernel
theorem dX4_passDaysUntilFall_24 : decode cX4_passDaysUntilFall 24 = .ok (.pop, 1) := by decide +kernel
theorem dX4_passDaysUntilFall_25 : decode cX4_passDaysUntilFall 25 = .ok (.aload_n 1, 1) := by decide +kernel
theorem dX4_passDaysUntilFall_26 : decode cX4_passDaysUntilFall 26 = .ok (.getfield 108, 3) := by decide +kernel
theorem dX4_passDaysUntilFall_29 : decode cX4_passDaysUntilFall 29 = .ok (.ifCond .eq 12, 3) := by decide +kernel
theorem dX4_passDaysUntilFall_32 : decode cX4_passDaysUntilFall 32 = .ok (.aload_n 1, 1) := by decide +kernel
theorem dX4_passDaysUntilFall_33 : decode cX4_passDaysUntilFall 33 = .ok (.invokevirtual 147, 3) := by decide +kernel
theorem dX4_passDaysUntilFall_36 : decode cX4_passDaysUntilFall 36 = .ok (.ifCond .ne 5, 3) := by decide +kernel
theorem dX4_passDaysUntilFall_39 : decode cX4_passDaysUntilFall 39 = .ok (.iload_n 2, 1) := by decide +kernel
theorem dX4_passDaysUntilFall_40 : decode cX4_passDaysUntilFall 40 = .ok (.ireturn, 1) := by decide +kernel
theorem dX4_passDaysUntilFall_41 : decode cX4_passDaysUntilFall 41 = .ok (.iinc 2 1, 3) := by decide +kernel
theorem dX4_passDaysUntilFall_44 : decode cX4_passDaysUntilFall 44 = .ok (.goto (-42), 3) := by decide +kernel
theorem dX4_passDaysUntilFall_47 : decode cX4_passDaysUntilFall 47 = .ok (.iconst (-1), 1) := by decide +kernel
theorem dX4_passDaysUntilFall_48 : decode cX4_passDaysUntilFall 48 = .ok (.ireturn, 1) := by decide +kernel
theorem dX4_payIncomes_0 : decode cX4_payIncomes 0 = .ok (.iconst 0, 1) := by decide +kernel
theorem dX4_payIncomes_1 : decode cX4_payIncomes 1 = .ok (.istore_n 1, 1) := by decide +kernel
theorem dX4_payIncomes_2 : decode cX4_payIncomes 2 = .ok (.iload_n 1, 1) := by decide +kernel
theorem dX4_payIncomes_3 : decode cX4_payIncomes 3 = .ok (.aload_n 0, 1) := by decide +kernel
theorem dX4_payIncomes_4 : decode cX4_payIncomes 4 = .ok (.getfield 50, 3) := by decide +kernel
theorem dX4_payIncomes_7 : decode cX4_payIncomes 7 = .ok (.if_icmp .ge 71, 3) := by decide +kernel
theorem dX4_payIncomes_10 : decode cX4_payIncomes 10 = .ok (.aload_n 0, 1) := by decide +kernel
theorem dX4_payIncomes_11 : decode cX4_payIncomes 11 = .ok (.getfield 19, 3) := by decide +kernel
theorem dX4_payIncomes_14 : decode cX4_payIncomes 14 = .ok (.iload_n 1, 1) := by decide +kernel
theorem dX4_payIncomes_15 : decode cX4_payIncomes 15 = .ok (.aaload, 1) := by decide +kernel
theorem dX4_payIncomes_16 : decode cX4_payIncomes 16 = .ok (.astore_n 2, 1) := by decide +kernel
theorem dX4_payIncomes_17 : decode cX4_payIncomes 17 = .ok (.aload_n 0, 1) := by decide +kernel
theorem dX4_payIncomes_18 : decode cX4_payIncomes 18 = .ok (.aload_n 2, 1) := by decide +kernel
theorem dX4_payIncomes_19 : decode cX4_payIncomes 19 = .ok (.invokevirtual 207, 3) := by decide +kernel
theorem dX4_payIncomes_22 : decode cX4_payIncomes 22 = .ok (.istore_n 3, 1) := by decide +kernel
theorem dX4_payIncomes_23 : decode cX4_payIncomes 23 = .ok (.iload_n 3, 1) := by decide +kernel
theorem dX4_payIncomes_24 : decode cX4_payIncomes 24 = .ok (.ifCond .le 14, 3) := by decide +kernel
theorem dX4_payIncomes_27 : decode cX4_payIncomes 27 = .ok (.iload_n 3, 1) := by decide +kernel
theorem dX4_payIncomes_28 : decode cX4_payIncomes 28 = .ok (.aload_n 0, 1) := by decide +kernel
theorem dX4_payIncomes_29 : decode cX4_payIncomes 29 = .ok (.getfield 56, 3) := by decide +kernel
theorem dX4_payIncomes_32 : decode cX4_payIncomes 32 = .ok (.invokestatic 210, 3) := by decide +kernel
theorem dX4_payIncomes_35 : decode cX4_payIncomes 35 = .ok (.goto 13, 3) := by decide +kernel
theorem dX4_payIncomes_38 : decode cX4_payIncomes 38 = .ok (.iload_n 3, 1) := by decide +kernel
theorem dX4_payIncomes_39 : decode cX4_payIncomes 39 = .ok (.ineg, 1) := by decide +kernel
theorem dX4_payIncomes_40 : decode cX4_payIncomes 40 = .ok (.aload_n 2, 1) := by decide +kernel
theorem dX4_payIncomes_41 : decode cX4_payIncomes 41 = .ok (.getfield 102, 3) := by decide +kernel
theorem dX4_payIncomes_44 : decode cX4_payIncomes 44 = .ok (.invokestatic 210, 3) := by decide +kernel
theorem dX4_payIncomes_47 : decode cX4_payIncomes 47 = .ok (.ineg, 1) := by decide +kernel
theorem dX4_payIncomes_48 : decode cX4_payIncomes 48 = .ok (.istore 4, 2) := by decide +kernel
theorem dX4_payIncomes_50 : decode cX4_payIncomes 50 = .ok (.aload_n 0, 1) := by decide +kernel
theorem dX4_payIncomes_51 : decode cX4_payIncomes 51 = .ok (.dup, 1) := by decide +kernel
theorem dX4_payIncomes_52 : decode cX4_payIncomes 52 = .ok (.getfield 56, 3) := by decide +kernel
theorem dX4_payIncomes_55 : decode cX4_payIncomes 55 = .ok (.iload 4, 2) := by decide +kernel
theorem dX4_payIncomes_57 : decode cX4_payIncomes 57 = .ok (.isub, 1) := by decide +kernel
theorem dX4_payIncomes_58 : decode cX4_payIncomes 58 = .ok (.putfield 56, 3) := by decide +kernel
theorem dX4_payIncomes_61 : decode cX4_payIncomes 61 = .ok (.aload_n 2, 1) := by decide +kernel
theorem dX4_payIncomes_62 : decode cX4_payIncomes 62 = .ok (.dup, 1) := by decide +kernel
theorem dX4_payIncomes_63 : decode cX4_payIncomes 63 = .ok (.getfield 102, 3) := by decide +kernel
theorem dX4_payIncomes_66 : decode cX4_payIncomes 66 = .ok (.iload 4, 2) := by decide +kernel
theorem dX4_payIncomes_68 : decode cX4_payIncomes 68 = .ok (.iadd, 1) := by decide +kernel
theorem dX4_payIncomes_69 : decode cX4_payIncomes 69 = .ok (.putfield 102, 3) := by decide +kernel
theorem dX4_payIncomes_72 : decode cX4_payIncomes 72 = .ok (.iinc 1 1, 3) := by decide +kernel
theorem dX4_payIncomes_75 : decode cX4_payIncomes 75 = .ok (.goto (-73), 3) := by decide +kernel
theorem dX4_payIncomes_78 : decode cX4_payIncomes 78 = .ok (.return_, 1) := by decide +kernel
theorem dX4_ageTraders_0 : decode cX4_ageTraders 0 = .ok (.iconst 0, 1) := by decide +kernel
theorem dX4_ageTraders_1 : decode cX4_ageTraders 1 = .ok (.istore_n 1, 1) := by decide +kernel
theorem dX4_ageTraders_2 : decode cX4_ageTraders 2 = .ok (.iload_n 1, 1) := by decide +kernel
theorem dX4_ageTraders_3 : decode cX4_ageTraders 3 = .ok (.aload_n 0, 1) := by decide +kernel
theorem dX4_ageTraders_4 : decode cX4_ageTraders 4 = .ok (.getfield 50, 3) := by decide +kernel
theorem dX4_ageTraders_7 : decode cX4_ageTraders 7 = .ok (.if_icmp .ge 49, 3) := by decide +kernel
theorem dX4_ageTraders_10 : decode cX4_ageTraders 10 = .ok (.aload_n 0, 1) := by decide +kernel
theorem dX4_ageTraders_11 : decode cX4_ageTraders 11 = .ok (.getfield 19, 3) := by decide +kernel
theorem dX4_ageTraders_14 : decode cX4_ageTraders 14 = .ok (.iload_n 1, 1) := by decide +kernel
theorem dX4_ageTraders_15 : decode cX4_ageTraders 15 = .ok (.aaload, 1) := by decide +kernel
theorem dX4_ageTraders_16 : decode cX4_ageTraders 16 = .ok (.astore_n 2, 1) := by decide +kernel
theorem dX4_ageTraders_17 : decode cX4_ageTraders 17 = .ok (.aload_n 2, 1) := by decide +kernel
theorem dX4_ageTraders_18 : decode cX4_ageTraders 18 = .ok (.getfield 108, 3) := by decide +kernel
theorem dX4_ageTraders_21 : decode cX4_ageTraders 21 = .ok (.ifCond .eq 29, 3) := by decide +kernel
theorem dX4_ageTraders_24 : decode cX4_ageTraders 24 = .ok (.aload_n 2, 1) := by decide +kernel
theorem dX4_ageTraders_25 : decode cX4_ageTraders 25 = .ok (.dup, 1) := by decide +kernel
theorem dX4_ageTraders_26 : decode cX4_ageTraders 26 = .ok (.getfield 105, 3) := by decide +kernel
theorem dX4_ageTraders_29 : decode cX4_ageTraders 29 = .ok (.iconst 1, 1) := by decide +kernel
theorem dX4_ageTraders_30 : decode cX4_ageTraders 30 = .ok (.iadd, 1) := by decide +kernel
theorem dX4_ageTraders_31 : decode cX4_ageTraders 31 = .ok (.putfield 105, 3) := by decide +kernel
theorem dX4_ageTraders_34 : decode cX4_ageTraders 34 = .ok (.aload_n 2, 1) := by decide +kernel
theorem dX4_ageTraders_35 : decode cX4_ageTraders 35 = .ok (.getfield 105, 3) := by decide +kernel
theorem dX4_ageTraders_38 : decode cX4_ageTraders 38 = .ok (.aload_n 0, 1) := by decide +kernel
theorem dX4_ageTraders_39 : decode cX4_ageTraders 39 = .ok (.getfield 68, 3) := by decide +kernel
theorem dX4_ageTraders_42 : decode cX4_ageTraders 42 = .ok (.if_icmp .le 8, 3) := by decide +kernel
theorem dX4_ageTraders_45 : decode cX4_ageTraders 45 = .ok (.aload_n 0, 1) := by decide +kernel
theorem dX4_ageTraders_46 : decode cX4_ageTraders 46 = .ok (.aload_n 2, 1) := by decide +kernel
theorem dX4_ageTraders_47 : decode cX4_ageTraders 47 = .ok (.invokevirtual 213, 3) := by decide +kernel
theorem dX4_ageTraders_50 : decode cX4_ageTraders 50 = .ok (.iinc 1 1, 3) := by decide +kernel
theorem dX4_ageTraders_53 : decode cX4_ageTraders 53 = .ok (.goto (-51), 3) := by decide +kernel
theorem dX4_ageTraders_56 : decode cX4_ageTraders 56 = .ok (.return_, 1) := by decide +kernel
theorem dX4_retire_0 : decode cX4_retire 0 = .ok (.aload_n 0, 1) := by decide +kernel
theorem dX4_retire_1 : decode cX4_retire 1 = .ok (.aload_n 1, 1) := by decide +kernel
theorem dX4_retire_2 : decode cX4_retire 2 = .ok (.invokevirtual 187, 3) := by decide +kernel
theorem dX4_retire_5 : decode cX4_retire 5 = .ok (.aload_n 0, 1) := by decide +kernel
theorem dX4_retire_6 : decode cX4_retire 6 = .ok (.aload_n 1, 1) := by decide +kernel
theorem dX4_retire_7 : decode cX4_retire 7 = .ok (.aload_n 1, 1) := by decide +kernel
theorem dX4_retire_8 : decode cX4_retire 8 = .ok (.getfield 102, 3) := by decide +kernel
theorem dX4_retire_11 : decode cX4_retire 11 = .ok (.invokevirtual 216, 3) := by decide +kernel
theorem dX4_retire_14 : decode cX4_retire 14 = .ok (.aload_n 1, 1) := by decide +kernel
theorem dX4_retire_15 : decode cX4_retire 15 = .ok (.iconst 0, 1) := by decide +kernel
theorem dX4_retire_16 : decode cX4_retire 16 = .ok (.putfield 108, 3) := by decide +kernel
theorem dX4_retire_19 : decode cX4_retire 19 = .ok (.aload_n 0, 1) := by decide +kernel
theorem dX4_retire_20 : decode cX4_retire 20 = .ok (.getfield 26, 3) := by decide +kernel
theorem dX4_retire_23 : decode cX4_retire 23 = .ok (.iconst 2, 1) := by decide +kernel
theorem dX4_retire_24 : decode cX4_retire 24 = .ok (.aload_n 1, 1) := by decide +kernel
theorem dX4_retire_25 : decode cX4_retire 25 = .ok (.getfield 118, 3) := by decide +kernel
theorem dX4_retire_28 : decode cX4_retire 28 = .ok (.aload_n 0, 1) := by decide +kernel
theorem dX4_retire_29 : decode cX4_retire 29 = .ok (.getfield 34, 3) := by decide +kernel
theorem dX4_retire_32 : decode cX4_retire 32 = .ok (.invokevirtual 220, 3) := by decide +kernel
theorem dX4_retire_35 : decode cX4_retire 35 = .ok (.return_, 1) := by decide +kernel
theorem dX4_payToBank_0 : decode cX4_payToBank 0 = .ok (.iload_n 2, 1) := by decide +kernel
theorem dX4_payToBank_1 : decode cX4_payToBank 1 = .ok (.aload_n 1, 1) := by decide +kernel
theorem dX4_payToBank_2 : decode cX4_payToBank 2 = .ok (.getfield 102, 3) := by decide +kernel
theorem dX4_payToBank_5 : decode cX4_payToBank 5 = .ok (.invokestatic 210, 3) := by decide +kernel
theorem dX4_payToBank_8 : decode cX4_payToBank 8 = .ok (.istore_n 3, 1) := by decide +kernel
theorem dX4_payToBank_9 : decode cX4_payToBank 9 = .ok (.aload_n 1, 1) := by decide +kernel
theorem dX4_payToBank_10 : decode cX4_payToBank 10 = .ok (.dup, 1) := by decide +kernel
theorem dX4_payToBank_11 : decode cX4_payToBank 11 = .ok (.getfield 102, 3) := by decide +kernel
theorem dX4_payToBank_14 : decode cX4_payToBank 14 = .ok (.iload_n 3, 1) := by decide +kernel
theorem dX4_payToBank_15 : decode cX4_payToBank 15 = .ok (.isub, 1) := by decide +kernel
theorem dX4_payToBank_16 : decode cX4_payToBank 16 = .ok (.putfield 102, 3) := by decide +kernel
theorem dX4_payToBank_19 : decode cX4_payToBank 19 = .ok (.aload_n 0, 1) := by decide +kernel
theorem dX4_payToBank_20 : decode cX4_payToBank 20 = .ok (.dup, 1) := by decide +kernel
theorem dX4_payToBank_21 : decode cX4_payToBank 21 = .ok (.getfield 56, 3) := by decide +kernel
theorem dX4_payToBank_24 : decode cX4_payToBank 24 = .ok (.iload_n 3, 1) := by decide +kernel
theorem dX4_payToBank_25 : decode cX4_payToBank 25 = .ok (.iadd, 1) := by decide +kernel
theorem dX4_payToBank_26 : decode cX4_payToBank 26 = .ok (.putfield 56, 3) := by decide +kernel
theorem dX4_payToBank_29 : decode cX4_payToBank 29 = .ok (.return_, 1) := by decide +kernel
theorem dX4_tipBoards_0 : decode cX4_tipBoards 0 = .ok (.iconst 0, 1) := by decide +kernel
theorem dX4_tipBoards_1 : decode cX4_tipBoards 1 = .ok (.istore_n 1, 1) := by decide +kernel
theorem dX4_tipBoards_2 : decode cX4_tipBoards 2 = .ok (.iconst 0, 1) := by decide +kernel
theorem dX4_tipBoards_3 : decode cX4_tipBoards 3 = .ok (.istore_n 2, 1) := by decide +kernel
theorem dX4_tipBoards_4 : decode cX4_tipBoards 4 = .ok (.iload_n 2, 1) := by decide +kernel
theorem dX4_tipBoards_5 : decode cX4_tipBoards 5 = .ok (.aload_n 0, 1) := by decide +kernel
theorem dX4_tipBoards_6 : decode cX4_tipBoards 6 = .ok (.getfield 47, 3) := by decide +kernel
theorem dX4_tipBoards_9 : decode cX4_tipBoards 9 = .ok (.if_icmp .ge 73, 3) := by decide +kernel
theorem dX4_tipBoards_12 : decode cX4_tipBoards 12 = .ok (.aload_n 0, 1) := by decide +kernel
theorem dX4_tipBoards_13 : decode cX4_tipBoards 13 = .ok (.getfield 11, 3) := by decide +kernel
theorem dX4_tipBoards_16 : decode cX4_tipBoards 16 = .ok (.iload_n 2, 1) := by decide +kernel
theorem dX4_tipBoards_17 : decode cX4_tipBoards 17 = .ok (.aaload, 1) := by decide +kernel
theorem dX4_tipBoards_18 : decode cX4_tipBoards 18 = .ok (.astore_n 3, 1) := by decide +kernel
theorem dX4_tipBoards_19 : decode cX4_tipBoards 19 = .ok (.aload_n 0, 1) := by decide +kernel
theorem dX4_tipBoards_20 : decode cX4_tipBoards 20 = .ok (.aload_n 3, 1) := by decide +kernel
theorem dX4_tipBoards_21 : decode cX4_tipBoards 21 = .ok (.invokevirtual 122, 3) := by decide +kernel
theorem dX4_tipBoards_24 : decode cX4_tipBoards 24 = .ok (.istore 4, 2) := by decide +kernel
theorem dX4_tipBoards_26 : decode cX4_tipBoards 26 = .ok (.iconst 0, 1) := by decide +kernel
theorem dX4_tipBoards_27 : decode cX4_tipBoards 27 = .ok (.istore 5, 2) := by decide +kernel
theorem dX4_tipBoards_29 : decode cX4_tipBoards 29 = .ok (.iload 5, 2) := by decide +kernel
theorem dX4_tipBoards_31 : decode cX4_tipBoards 31 = .ok (.bipush 12, 2) := by decide +kernel
theorem dX4_tipBoards_33 : decode cX4_tipBoards 33 = .ok (.if_icmp .ge 43, 3) := by decide +kernel
theorem dX4_tipBoards_36 : decode cX4_tipBoards 36 = .ok (.aload_n 3, 1) := by decide +kernel
theorem dX4_tipBoards_37 : decode cX4_tipBoards 37 = .ok (.iload 4, 2) := by decide +kernel
theorem dX4_tipBoards_39 : decode cX4_tipBoards 39 = .ok (.invokevirtual 172, 3) := by decide +kernel
theorem dX4_tipBoards_42 : decode cX4_tipBoards 42 = .ok (.ifCond .eq 34, 3) := by decide +kernel
theorem dX4_tipBoards_45 : decode cX4_tipBoards 45 = .ok (.aload_n 0, 1) := by decide +kernel
theorem dX4_tipBoards_46 : decode cX4_tipBoards 46 = .ok (.aload_n 3, 1) := by decide +kernel
theorem dX4_tipBoards_47 : decode cX4_tipBoards 47 = .ok (.iload 4, 2) := by decide +kernel
theorem dX4_tipBoards_49 : decode cX4_tipBoards 49 = .ok (.ifCond .le 7, 3) := by decide +kernel
theorem dX4_tipBoards_52 : decode cX4_tipBoards 52 = .ok (.iconst 1, 1) := by decide +kernel
theorem dX4_tipBoards_53 : decode cX4_tipBoards 53 = .ok (.goto 4, 3) := by decide +kernel
theorem dX4_tipBoards_56 : decode cX4_tipBoards 56 = .ok (.iconst (-1), 1) := by decide +kernel
theorem dX4_tipBoards_57 : decode cX4_tipBoards 57 = .ok (.invokevirtual 223, 3) := by decide +kernel
theorem dX4_tipBoards_60 : decode cX4_tipBoards 60 = .ok (.iinc 1 1, 3) := by decide +kernel
theorem dX4_tipBoards_63 : decode cX4_tipBoards 63 = .ok (.aload_n 0, 1) := by decide +kernel
theorem dX4_tipBoards_64 : decode cX4_tipBoards 64 = .ok (.aload_n 3, 1) := by decide +kernel
theorem dX4_tipBoards_65 : decode cX4_tipBoards 65 = .ok (.invokevirtual 122, 3) := by decide +kernel
theorem dX4_tipBoards_68 : decode cX4_tipBoards 68 = .ok (.istore 4, 2) := by decide +kernel
theorem dX4_tipBoards_70 : decode cX4_tipBoards 70 = .ok (.iinc 5 1, 3) := by decide +kernel
theorem dX4_tipBoards_73 : decode cX4_tipBoards 73 = .ok (.goto (-44), 3) := by decide +kernel
theorem dX4_tipBoards_76 : decode cX4_tipBoards 76 = .ok (.iinc 2 1, 3) := by decide +kernel
theorem dX4_tipBoards_79 : decode cX4_tipBoards 79 = .ok (.goto (-75), 3) := by decide +kernel
theorem dX4_tipBoards_82 : decode cX4_tipBoards 82 = .ok (.aload_n 0, 1) := by decide +kernel
theorem dX4_tipBoards_83 : decode cX4_tipBoards 83 = .ok (.dup, 1) := by decide +kernel
theorem dX4_tipBoards_84 : decode cX4_tipBoards 84 = .ok (.getfield 44, 3) := by decide +kernel
theorem dX4_tipBoards_87 : decode cX4_tipBoards 87 = .ok (.iload_n 1, 1) := by decide +kernel
theorem dX4_tipBoards_88 : decode cX4_tipBoards 88 = .ok (.iadd, 1) := by decide +kernel
theorem dX4_tipBoards_89 : decode cX4_tipBoards 89 = .ok (.putfield 44, 3) := by decide +kernel
theorem dX4_tipBoards_92 : decode cX4_tipBoards 92 = .ok (.iload_n 1, 1) := by decide +kernel
theorem dX4_tipBoards_93 : decode cX4_tipBoards 93 = .ok (.ireturn, 1) := by decide +kernel
theorem dX4_dropFarthest_0 : decode cX4_dropFarthest 0 = .ok (.aload_n 1, 1) := by decide +kernel
theorem dX4_dropFarthest_1 : decode cX4_dropFarthest 1 = .ok (.getfield 155, 3) := by decide +kernel
theorem dX4_dropFarthest_4 : decode cX4_dropFarthest 4 = .ok (.istore_n 3, 1) := by decide +kernel
theorem dX4_dropFarthest_5 : decode cX4_dropFarthest 5 = .ok (.iload_n 3, 1) := by decide +kernel
theorem dX4_dropFarthest_6 : decode cX4_dropFarthest 6 = .ok (.iconst 1, 1) := by decide +kernel
theorem dX4_dropFarthest_7 : decode cX4_dropFarthest 7 = .ok (.if_icmp .lt 61, 3) := by decide +kernel
theorem dX4_dropFarthest_10 : decode cX4_dropFarthest 10 = .ok (.aload_n 0, 1) := by decide +kernel
theorem dX4_dropFarthest_11 : decode cX4_dropFarthest 11 = .ok (.aload_n 1, 1) := by decide +kernel
theorem dX4_dropFarthest_12 : decode cX4_dropFarthest 12 = .ok (.iload_n 2, 1) := by decide +kernel
theorem dX4_dropFarthest_13 : decode cX4_dropFarthest 13 = .ok (.iload_n 3, 1) := by decide +kernel
theorem dX4_dropFarthest_14 : decode cX4_dropFarthest 14 = .ok (.imul, 1) := by decide +kernel
theorem dX4_dropFarthest_15 : decode cX4_dropFarthest 15 = .ok (.invokevirtual 227, 3) := by decide +kernel
theorem dX4_dropFarthest_18 : decode cX4_dropFarthest 18 = .ok (.invokevirtual 230, 3) := by decide +kernel
theorem dX4_dropFarthest_21 : decode cX4_dropFarthest 21 = .ok (.astore 4, 2) := by decide +kernel
theorem dX4_dropFarthest_23 : decode cX4_dropFarthest 23 = .ok (.aload 4, 2) := by decide +kernel
theorem dX4_dropFarthest_25 : decode cX4_dropFarthest 25 = .ok (.ifnull 37, 3) := by decide +kernel
theorem dX4_dropFarthest_28 : decode cX4_dropFarthest 28 = .ok (.aload_n 0, 1) := by decide +kernel
theorem dX4_dropFarthest_29 : decode cX4_dropFarthest 29 = .ok (.aload 4, 2) := by decide +kernel
theorem dX4_dropFarthest_31 : decode cX4_dropFarthest 31 = .ok (.invokevirtual 187, 3) := by decide +kernel
theorem dX4_dropFarthest_34 : decode cX4_dropFarthest 34 = .ok (.aload_n 0, 1) := by decide +kernel
theorem dX4_dropFarthest_35 : decode cX4_dropFarthest 35 = .ok (.aload 4, 2) := by decide +kernel
theorem dX4_dropFarthest_37 : decode cX4_dropFarthest 37 = .ok (.aload_n 0, 1) := by decide +kernel
theorem dX4_dropFarthest_38 : decode cX4_dropFarthest 38 = .ok (.getfield 71, 3) := by decide +kernel
theorem dX4_dropFarthest_41 : decode cX4_dropFarthest 41 = .ok (.invokevirtual 216, 3) := by decide +kernel
theorem dX4_dropFarthest_44 : decode cX4_dropFarthest 44 = .ok (.aload_n 0, 1) := by decide +kernel
theorem dX4_dropFarthest_45 : decode cX4_dropFarthest 45 = .ok (.getfield 26, 3) := by decide +kernel
theorem dX4_dropFarthest_48 : decode cX4_dropFarthest 48 = .ok (.iconst 1, 1) := by decide +kernel
theorem dX4_dropFarthest_49 : decode cX4_dropFarthest 49 = .ok (.aload 4, 2) := by decide +kernel
theorem dX4_dropFarthest_51 : decode cX4_dropFarthest 51 = .ok (.getfield 118, 3) := by decide +kernel
theorem dX4_dropFarthest_54 : decode cX4_dropFarthest 54 = .ok (.aload_n 0, 1) := by decide +kernel
theorem dX4_dropFarthest_55 : decode cX4_dropFarthest 55 = .ok (.getfield 34, 3) := by decide +kernel
theorem dX4_dropFarthest_58 : decode cX4_dropFarthest 58 = .ok (.invokevirtual 220, 3) := by decide +kernel
theorem dX4_dropFarthest_61 : decode cX4_dropFarthest 61 = .ok (.return_, 1) := by decide +kernel
theorem dX4_dropFarthest_62 : decode cX4_dropFarthest 62 = .ok (.iinc 3 (-1), 3) := by decide +kernel
theorem dX4_dropFarthest_65 : decode cX4_dropFarthest 65 = .ok (.goto (-60), 3) := by decide +kernel
theorem dX4_dropFarthest_68 : decode cX4_dropFarthest 68 = .ok (.return_, 1) := by decide +kernel
theorem dX4_presentTraders_0 : decode cX4_presentTraders 0 = .ok (.iconst 0, 1) := by decide +kernel
theorem dX4_presentTraders_1 : decode cX4_presentTraders 1 = .ok (.istore_n 1, 1) := by decide +kernel
theorem dX4_presentTraders_2 : decode cX4_presentTraders 2 = .ok (.iconst 0, 1) := by decide +kernel
theorem dX4_presentTraders_3 : decode cX4_presentTraders 3 = .ok (.istore_n 2, 1) := by decide +kernel
theorem dX4_presentTraders_4 : decode cX4_presentTraders 4 = .ok (.iload_n 2, 1) := by decide +kernel
theorem dX4_presentTraders_5 : decode cX4_presentTraders 5 = .ok (.aload_n 0, 1) := by decide +kernel
theorem dX4_presentTraders_6 : decode cX4_presentTraders 6 = .ok (.getfield 50, 3) := by decide +kernel
theorem dX4_presentTraders_9 : decode cX4_presentTraders 9 = .ok (.if_icmp .ge 24, 3) := by decide +kernel
theorem dX4_presentTraders_12 : decode cX4_presentTraders 12 = .ok (.aload_n 0, 1) := by decide +kernel
theorem dX4_presentTraders_13 : decode cX4_presentTraders 13 = .ok (.getfield 19, 3) := by decide +kernel
theorem dX4_presentTraders_16 : decode cX4_presentTraders 16 = .ok (.iload_n 2, 1) := by decide +kernel
theorem dX4_presentTraders_17 : decode cX4_presentTraders 17 = .ok (.aaload, 1) := by decide +kernel
theorem dX4_presentTraders_18 : decode cX4_presentTraders 18 = .ok (.getfield 108, 3) := by decide +kernel
theorem dX4_presentTraders_21 : decode cX4_presentTraders 21 = .ok (.ifCond .eq 6, 3) := by decide +kernel
theorem dX4_presentTraders_24 : decode cX4_presentTraders 24 = .ok (.iinc 1 1, 3) := by decide +kernel
theorem dX4_presentTraders_27 : decode cX4_presentTraders 27 = .ok (.iinc 2 1, 3) := by decide +kernel
theorem dX4_presentTraders_30 : decode cX4_presentTraders 30 = .ok (.goto (-26), 3) := by decide +kernel
theorem dX4_presentTraders_33 : decode cX4_presentTraders 33 = .ok (.iload_n 1, 1) := by decide +kernel
theorem dX4_presentTraders_34 : decode cX4_presentTraders 34 = .ok (.ireturn, 1) := by decide +kernel
theorem dX4_coinsInPurses_0 : decode cX4_coinsInPurses 0 = .ok (.iconst 0, 1) := by decide +kernel
theorem dX4_coinsInPurses_1 : decode cX4_coinsInPurses 1 = .ok (.istore_n 1, 1) := by decide +kernel
theorem dX4_coinsInPurses_2 : decode cX4_coinsInPurses 2 = .ok (.iconst 0, 1) := by decide +kernel
theorem dX4_coinsInPurses_3 : decode cX4_coinsInPurses 3 = .ok (.istore_n 2, 1) := by decide +kernel
theorem dX4_coinsInPurses_4 : decode cX4_coinsInPurses 4 = .ok (.iload_n 2, 1) := by decide +kernel
theorem dX4_coinsInPurses_5 : decode cX4_coinsInPurses 5 = .ok (.aload_n 0, 1) := by decide +kernel
theorem dX4_coinsInPurses_6 : decode cX4_coinsInPurses 6 = .ok (.getfield 50, 3) := by decide +kernel
theorem dX4_coinsInPurses_9 : decode cX4_coinsInPurses 9 = .ok (.if_icmp .ge 21, 3) := by decide +kernel
theorem dX4_coinsInPurses_12 : decode cX4_coinsInPurses 12 = .ok (.iload_n 1, 1) := by decide +kernel
theorem dX4_coinsInPurses_13 : decode cX4_coinsInPurses 13 = .ok (.aload_n 0, 1) := by decide +kernel
theorem dX4_coinsInPurses_14 : decode cX4_coinsInPurses 14 = .ok (.getfield 19, 3) := by decide +kernel
theorem dX4_coinsInPurses_17 : decode cX4_coinsInPurses 17 = .ok (.iload_n 2, 1) := by decide +kernel
theorem dX4_coinsInPurses_18 : decode cX4_coinsInPurses 18 = .ok (.aaload, 1) := by decide +kernel
theorem dX4_coinsInPurses_19 : decode cX4_coinsInPurses 19 = .ok (.getfield 102, 3) := by decide +kernel
theorem dX4_coinsInPurses_22 : decode cX4_coinsInPurses 22 = .ok (.iadd, 1) := by decide +kernel
theorem dX4_coinsInPurses_23 : decode cX4_coinsInPurses 23 = .ok (.istore_n 1, 1) := by decide +kernel
theorem dX4_coinsInPurses_24 : decode cX4_coinsInPurses 24 = .ok (.iinc 2 1, 3) := by decide +kernel
theorem dX4_coinsInPurses_27 : decode cX4_coinsInPurses 27 = .ok (.goto (-23), 3) := by decide +kernel
theorem dX4_coinsInPurses_30 : decode cX4_coinsInPurses 30 = .ok (.iload_n 1, 1) := by decide +kernel
theorem dX4_coinsInPurses_31 : decode cX4_coinsInPurses 31 = .ok (.ireturn, 1) := by decide +kernel
theorem dX4_traderWithRank_0 : decode cX4_traderWithRank 0 = .ok (.iconst 0, 1) := by decide +kernel
theorem dX4_traderWithRank_1 : decode cX4_traderWithRank 1 = .ok (.istore_n 2, 1) := by decide +kernel
theorem dX4_traderWithRank_2 : decode cX4_traderWithRank 2 = .ok (.iload_n 2, 1) := by decide +kernel
theorem dX4_traderWithRank_3 : decode cX4_traderWithRank 3 = .ok (.aload_n 0, 1) := by decide +kernel
theorem dX4_traderWithRank_4 : decode cX4_traderWithRank 4 = .ok (.getfield 50, 3) := by decide +kernel
theorem dX4_traderWithRank_7 : decode cX4_traderWithRank 7 = .ok (.if_icmp .ge 37, 3) := by decide +kernel
theorem dX4_traderWithRank_10 : decode cX4_traderWithRank 10 = .ok (.aload_n 0, 1) := by decide +kernel
theorem dX4_traderWithRank_11 : decode cX4_traderWithRank 11 = .ok (.getfield 19, 3) := by decide +kernel
theorem dX4_traderWithRank_14 : decode cX4_traderWithRank 14 = .ok (.iload_n 2, 1) := by decide +kernel
theorem dX4_traderWithRank_15 : decode cX4_traderWithRank 15 = .ok (.aaload, 1) := by decide +kernel
theorem dX4_traderWithRank_16 : decode cX4_traderWithRank 16 = .ok (.getfield 108, 3) := by decide +kernel
theorem dX4_traderWithRank_19 : decode cX4_traderWithRank 19 = .ok (.ifCond .eq 19, 3) := by decide +kernel
theorem dX4_traderWithRank_22 : decode cX4_traderWithRank 22 = .ok (.aload_n 0, 1) := by decide +kernel
theorem dX4_traderWithRank_23 : decode cX4_traderWithRank 23 = .ok (.aload_n 0, 1) := by decide +kernel
theorem dX4_traderWithRank_24 : decode cX4_traderWithRank 24 = .ok (.getfield 19, 3) := by decide +kernel
theorem dX4_traderWithRank_27 : decode cX4_traderWithRank 27 = .ok (.iload_n 2, 1) := by decide +kernel
theorem dX4_traderWithRank_28 : decode cX4_traderWithRank 28 = .ok (.aaload, 1) := by decide +kernel
theorem dX4_traderWithRank_29 : decode cX4_traderWithRank 29 = .ok (.invokevirtual 234, 3) := by decide +kernel
theorem dX4_traderWithRank_32 : decode cX4_traderWithRank 32 = .ok (.iload_n 1, 1) := by decide +kernel
theorem dX4_traderWithRank_33 : decode cX4_traderWithRank 33 = .ok (.if_icmp .ne 5, 3) := by decide +kernel
theorem dX4_traderWithRank_36 : decode cX4_traderWithRank 36 = .ok (.iload_n 2, 1) := by decide +kernel
theorem dX4_traderWithRank_37 : decode cX4_traderWithRank 37 = .ok (.ireturn, 1) := by decide +kernel
theorem dX4_traderWithRank_38 : decode cX4_traderWithRank 38 = .ok (.iinc 2 1, 3) := by decide +kernel
theorem dX4_traderWithRank_41 : decode cX4_traderWithRank 41 = .ok (.goto (-39), 3) := by decide +kernel
theorem dX4_traderWithRank_44 : decode cX4_traderWithRank 44 = .ok (.iconst (-1), 1) := by decide +kernel
theorem dX4_traderWithRank_45 : decode cX4_traderWithRank 45 = .ok (.ireturn, 1) := by decide +kernel
theorem dX4_rankOf_0 : decode cX4_rankOf 0 = .ok (.iconst 0, 1) := by decide +kernel
theorem dX4_rankOf_1 : decode cX4_rankOf 1 = .ok (.istore_n 2, 1) := by decide +kernel
theorem dX4_rankOf_2 : decode cX4_rankOf 2 = .ok (.iconst 0, 1) := by decide +kernel
theorem dX4_rankOf_3 : decode cX4_rankOf 3 = .ok (.istore_n 3, 1) := by decide +kernel
theorem dX4_rankOf_4 : decode cX4_rankOf 4 = .ok (.iload_n 3, 1) := by decide +kernel
theorem dX4_rankOf_5 : decode cX4_rankOf 5 = .ok (.aload_n 0, 1) := by decide +kernel
theorem dX4_rankOf_6 : decode cX4_rankOf 6 = .ok (.getfield 50, 3) := by decide +kernel
theorem dX4_rankOf_9 : decode cX4_rankOf 9 = .ok (.if_icmp .ge 72, 3) := by decide +kernel
theorem dX4_rankOf_12 : decode cX4_rankOf 12 = .ok (.aload_n 0, 1) := by decide +kernel
theorem dX4_rankOf_13 : decode cX4_rankOf 13 = .ok (.getfield 19, 3) := by decide +kernel
theorem dX4_rankOf_16 : decode cX4_rankOf 16 = .ok (.iload_n 3, 1) := by decide +kernel
theorem dX4_rankOf_17 : decode cX4_rankOf 17 = .ok (.aaload, 1) := by decide +kernel
theorem dX4_rankOf_18 : decode cX4_rankOf 18 = .ok (.astore 4, 2) := by decide +kernel
theorem dX4_rankOf_20 : decode cX4_rankOf 20 = .ok (.aload 4, 2) := by decide +kernel
theorem dX4_rankOf_22 : decode cX4_rankOf 22 = .ok (.getfield 102, 3) := by decide +kernel
theorem dX4_rankOf_25 : decode cX4_rankOf 25 = .ok (.aload_n 1, 1) := by decide +kernel
theorem dX4_rankOf_26 : decode cX4_rankOf 26 = .ok (.getfield 102, 3) := by decide +kernel
theorem dX4_rankOf_29 : decode cX4_rankOf 29 = .ok (.if_icmp .gt 23, 3) := by decide +kernel
theorem dX4_rankOf_32 : decode cX4_rankOf 32 = .ok (.aload 4, 2) := by decide +kernel
theorem dX4_rankOf_34 : decode cX4_rankOf 34 = .ok (.getfield 102, 3) := by decide +kernel
theorem dX4_rankOf_37 : decode cX4_rankOf 37 = .ok (.aload_n 1, 1) := by decide +kernel
theorem dX4_rankOf_38 : decode cX4_rankOf 38 = .ok (.getfield 102, 3) := by decide +kernel
theorem dX4_rankOf_41 : decode cX4_rankOf 41 = .ok (.if_icmp .ne 15, 3) := by decide +kernel
theorem dX4_rankOf_44 : decode cX4_rankOf 44 = .ok (.iload_n 3, 1) := by decide +kernel
theorem dX4_rankOf_45 : decode cX4_rankOf 45 = .ok (.aload_n 1, 1) := by decide +kernel
theorem dX4_rankOf_46 : decode cX4_rankOf 46 = .ok (.getfield 118, 3) := by decide +kernel
theorem dX4_rankOf_49 : decode cX4_rankOf 49 = .ok (.if_icmp .ge 7, 3) := by decide +kernel
theorem dX4_rankOf_52 : decode cX4_rankOf 52 = .ok (.iconst 1, 1) := by decide +kernel
theorem dX4_rankOf_53 : decode cX4_rankOf 53 = .ok (.goto 4, 3) := by decide +kernel
theorem dX4_rankOf_56 : decode cX4_rankOf 56 = .ok (.iconst 0, 1) := by decide +kernel
theorem dX4_rankOf_57 : decode cX4_rankOf 57 = .ok (.istore 5, 2) := by decide +kernel
theorem dX4_rankOf_59 : decode cX4_rankOf 59 = .ok (.aload 4, 2) := by decide +kernel
theorem dX4_rankOf_61 : decode cX4_rankOf 61 = .ok (.getfield 108, 3) := by decide +kernel
theorem dX4_rankOf_64 : decode cX4_rankOf 64 = .ok (.ifCond .eq 11, 3) := by decide +kernel
theorem dX4_rankOf_67 : decode cX4_rankOf 67 = .ok (.iload 5, 2) := by decide +kernel
theorem dX4_rankOf_69 : decode cX4_rankOf 69 = .ok (.ifCond .eq 6, 3) := by decide +kernel
theorem dX4_rankOf_72 : decode cX4_rankOf 72 = .ok (.iinc 2 1, 3) := by decide +kernel
theorem dX4_rankOf_75 : decode cX4_rankOf 75 = .ok (.iinc 3 1, 3) := by decide +kernel
theorem dX4_rankOf_78 : decode cX4_rankOf 78 = .ok (.goto (-74), 3) := by decide +kernel
theorem dX4_rankOf_81 : decode cX4_rankOf 81 = .ok (.iload_n 2, 1) := by decide +kernel
theorem dX4_rankOf_82 : decode cX4_rankOf 82 = .ok (.ireturn, 1) := by decide +kernel
theorem dX4_seatCount_0 : decode cX4_seatCount 0 = .ok (.iconst 0, 1) := by decide +kernel
theorem dX4_seatCount_1 : decode cX4_seatCount 1 = .ok (.istore_n 1, 1) := by decide +kernel
theorem dX4_seatCount_2 : decode cX4_seatCount 2 = .ok (.iconst 0, 1) := by decide +kernel
theorem dX4_seatCount_3 : decode cX4_seatCount 3 = .ok (.istore_n 2, 1) := by decide +kernel
theorem dX4_seatCount_4 : decode cX4_seatCount 4 = .ok (.iload_n 2, 1) := by decide +kernel
theorem dX4_seatCount_5 : decode cX4_seatCount 5 = .ok (.aload_n 0, 1) := by decide +kernel
theorem dX4_seatCount_6 : decode cX4_seatCount 6 = .ok (.getfield 47, 3) := by decide +kernel
theorem dX4_seatCount_9 : decode cX4_seatCount 9 = .ok (.if_icmp .ge 23, 3) := by decide +kernel
theorem dX4_seatCount_12 : decode cX4_seatCount 12 = .ok (.iload_n 1, 1) := by decide +kernel
theorem dX4_seatCount_13 : decode cX4_seatCount 13 = .ok (.iconst 2, 1) := by decide +kernel
theorem dX4_seatCount_14 : decode cX4_seatCount 14 = .ok (.aload_n 0, 1) := by decide +kernel
theorem dX4_seatCount_15 : decode cX4_seatCount 15 = .ok (.getfield 11, 3) := by decide +kernel
theorem dX4_seatCount_18 : decode cX4_seatCount 18 = .ok (.iload_n 2, 1) := by decide +kernel
theorem dX4_seatCount_19 : decode cX4_seatCount 19 = .ok (.aaload, 1) := by decide +kernel
theorem dX4_seatCount_20 : decode cX4_seatCount 20 = .ok (.getfield 155, 3) := by decide +kernel
theorem dX4_seatCount_23 : decode cX4_seatCount 23 = .ok (.imul, 1) := by decide +kernel
theorem dX4_seatCount_24 : decode cX4_seatCount 24 = .ok (.iadd, 1) := by decide +kernel
theorem dX4_seatCount_25 : decode cX4_seatCount 25 = .ok (.istore_n 1, 1) := by decide +kernel
theorem dX4_seatCount_26 : decode cX4_seatCount 26 = .ok (.iinc 2 1, 3) := by decide +kernel
theorem dX4_seatCount_29 : decode cX4_seatCount 29 = .ok (.goto (-25), 3) := by decide +kernel
theorem dX4_seatCount_32 : decode cX4_seatCount 32 = .ok (.iload_n 1, 1) := by decide +kernel
theorem dX4_seatCount_33 : decode cX4_seatCount 33 = .ok (.ireturn, 1) := by decide +kernel
theorem dX4_seatedTraders_0 : decode cX4_seatedTraders 0 = .ok (.iconst 0, 1) := by decide +kernel
theorem dX4_seatedTraders_1 : decode cX4_seatedTraders 1 = .ok (.istore_n 1, 1) := by decide +kernel
theorem dX4_seatedTraders_2 : decode cX4_seatedTraders 2 = .ok (.iconst 0, 1) := by decide +kernel
theorem dX4_seatedTraders_3 : decode cX4_seatedTraders 3 = .ok (.istore_n 2, 1) := by decide +kernel
theorem dX4_seatedTraders_4 : decode cX4_seatedTraders 4 = .ok (.iload_n 2, 1) := by decide +kernel
theorem dX4_seatedTraders_5 : decode cX4_seatedTraders 5 = .ok (.aload_n 0, 1) := by decide +kernel
theorem dX4_seatedTraders_6 : decode cX4_seatedTraders 6 = .ok (.getfield 50, 3) := by decide +kernel
theorem dX4_seatedTraders_9 : decode cX4_seatedTraders 9 = .ok (.if_icmp .ge 24, 3) := by decide +kernel
theorem dX4_seatedTraders_12 : decode cX4_seatedTraders 12 = .ok (.aload_n 0, 1) := by decide +kernel
theorem dX4_seatedTraders_13 : decode cX4_seatedTraders 13 = .ok (.getfield 19, 3) := by decide +kernel
theorem dX4_seatedTraders_16 : decode cX4_seatedTraders 16 = .ok (.iload_n 2, 1) := by decide +kernel
theorem dX4_seatedTraders_17 : decode cX4_seatedTraders 17 = .ok (.aaload, 1) := by decide +kernel
theorem dX4_seatedTraders_18 : decode cX4_seatedTraders 18 = .ok (.invokevirtual 147, 3) := by decide +kernel
theorem dX4_seatedTraders_21 : decode cX4_seatedTraders 21 = .ok (.ifCond .eq 6, 3) := by decide +kernel
theorem dX4_seatedTraders_24 : decode cX4_seatedTraders 24 = .ok (.iinc 1 1, 3) := by decide +kernel
theorem dX4_seatedTraders_27 : decode cX4_seatedTraders 27 = .ok (.iinc 2 1, 3) := by decide +kernel
theorem dX4_seatedTraders_30 : decode cX4_seatedTraders 30 = .ok (.goto (-26), 3) := by decide +kernel
theorem dX4_seatedTraders_33 : decode cX4_seatedTraders 33 = .ok (.iload_n 1, 1) := by decide +kernel
theorem dX4_seatedTraders_34 : decode cX4_seatedTraders 34 = .ok (.ireturn, 1) := by decide +kernel
theorem dX4_countContradictions_0 : decode cX4_countContradictions 0 = .ok (.aload_n 0, 1) := by decide +kernel
theorem dX4_countContradictions_1 : decode cX4_countContradictions 1 = .ok (.getfield 74, 3) := by decide +kernel
theorem dX4_countContradictions_4 : decode cX4_countContradictions 4 = .ok (.aload_n 0, 1) := by decide +kernel
theorem dX4_countContradictions_5 : decode cX4_countContradictions 5 = .ok (.invokevirtual 237, 3) := by decide +kernel
theorem dX4_countContradictions_8 : decode cX4_countContradictions 8 = .ok (.isub, 1) := by decide +kernel
theorem dX4_countContradictions_9 : decode cX4_countContradictions 9 = .ok (.aload_n 0, 1) := by decide +kernel
theorem dX4_countContradictions_10 : decode cX4_countContradictions 10 = .ok (.getfield 56, 3) := by decide +kernel
theorem dX4_countContradictions_13 : decode cX4_countContradictions 13 = .ok (.isub, 1) := by decide +kernel
theorem dX4_countContradictions_14 : decode cX4_countContradictions 14 = .ok (.invokestatic 130, 3) := by decide +kernel
theorem dX4_countContradictions_17 : decode cX4_countContradictions 17 = .ok (.istore_n 1, 1) := by decide +kernel
theorem dX4_countContradictions_18 : decode cX4_countContradictions 18 = .ok (.iconst 0, 1) := by decide +kernel
theorem dX4_countContradictions_19 : decode cX4_countContradictions 19 = .ok (.istore_n 2, 1) := by decide +kernel
theorem dX4_countContradictions_20 : decode cX4_countContradictions 20 = .ok (.iload_n 2, 1) := by decide +kernel
theorem dX4_countContradictions_21 : decode cX4_countContradictions 21 = .ok (.aload_n 0, 1) := by decide +kernel
theorem dX4_countContradictions_22 : decode cX4_countContradictions 22 = .ok (.getfield 47, 3) := by decide +kernel
theorem dX4_countContradictions_25 : decode cX4_countContradictions 25 = .ok (.if_icmp .ge 41, 3) := by decide +kernel
theorem dX4_countContradictions_28 : decode cX4_countContradictions 28 = .ok (.aload_n 0, 1) := by decide +kernel
theorem dX4_countContradictions_29 : decode cX4_countContradictions 29 = .ok (.getfield 11, 3) := by decide +kernel
theorem dX4_countContradictions_32 : decode cX4_countContradictions 32 = .ok (.iload_n 2, 1) := by decide +kernel
theorem dX4_countContradictions_33 : decode cX4_countContradictions 33 = .ok (.aaload, 1) := by decide +kernel
theorem dX4_countContradictions_34 : decode cX4_countContradictions 34 = .ok (.astore_n 3, 1) := by decide +kernel
theorem dX4_countContradictions_35 : decode cX4_countContradictions 35 = .ok (.iload_n 1, 1) := by decide +kernel
theorem dX4_countContradictions_36 : decode cX4_countContradictions 36 = .ok (.aload_n 0, 1) := by decide +kernel
theorem dX4_countContradictions_37 : decode cX4_countContradictions 37 = .ok (.aload_n 3, 1) := by decide +kernel
theorem dX4_countContradictions_38 : decode cX4_countContradictions 38 = .ok (.invokevirtual 122, 3) := by decide +kernel
theorem dX4_countContradictions_41 : decode cX4_countContradictions 41 = .ok (.aload_n 0, 1) := by decide +kernel
theorem dX4_countContradictions_42 : decode cX4_countContradictions 42 = .ok (.aload_n 3, 1) := by decide +kernel
theorem dX4_countContradictions_43 : decode cX4_countContradictions 43 = .ok (.invokevirtual 240, 3) := by decide +kernel
theorem dX4_countContradictions_46 : decode cX4_countContradictions 46 = .ok (.isub, 1) := by decide +kernel
theorem dX4_countContradictions_47 : decode cX4_countContradictions 47 = .ok (.invokestatic 130, 3) := by decide +kernel
theorem dX4_countContradictions_50 : decode cX4_countContradictions 50 = .ok (.iadd, 1) := by decide +kernel
theorem dX4_countContradictions_51 : decode cX4_countContradictions 51 = .ok (.istore_n 1, 1) := by decide +kernel
theorem dX4_countContradictions_52 : decode cX4_countContradictions 52 = .ok (.iload_n 1, 1) := by decide +kernel
theorem dX4_countContradictions_53 : decode cX4_countContradictions 53 = .ok (.aload_n 0, 1) := by decide +kernel
theorem dX4_countContradictions_54 : decode cX4_countContradictions 54 = .ok (.aload_n 3, 1) := by decide +kernel
theorem dX4_countContradictions_55 : decode cX4_countContradictions 55 = .ok (.invokevirtual 243, 3) := by decide +kernel
theorem dX4_countContradictions_58 : decode cX4_countContradictions 58 = .ok (.iadd, 1) := by decide +kernel
theorem dX4_countContradictions_59 : decode cX4_countContradictions 59 = .ok (.istore_n 1, 1) := by decide +kernel
theorem dX4_countContradictions_60 : decode cX4_countContradictions 60 = .ok (.iinc 2 1, 3) := by decide +kernel
theorem dX4_countContradictions_63 : decode cX4_countContradictions 63 = .ok (.goto (-43), 3) := by decide +kernel
theorem dX4_countContradictions_66 : decode cX4_countContradictions 66 = .ok (.iload_n 1, 1) := by decide +kernel
theorem dX4_countContradictions_67 : decode cX4_countContradictions 67 = .ok (.ireturn, 1) := by decide +kernel
theorem dX4_torqueByDistances_0 : decode cX4_torqueByDistances 0 = .ok (.iconst 0, 1) := by decide +kernel
theorem dX4_torqueByDistances_1 : decode cX4_torqueByDistances 1 = .ok (.istore_n 2, 1) := by decide +kernel
theorem dX4_torqueByDistances_2 : decode cX4_torqueByDistances 2 = .ok (.iconst 1, 1) := by decide +kernel
theorem dX4_torqueByDistances_3 : decode cX4_torqueByDistances 3 = .ok (.istore_n 3, 1) := by decide +kernel
theorem dX4_torqueByDistances_4 : decode cX4_torqueByDistances 4 = .ok (.iload_n 3, 1) := by decide +kernel
theorem dX4_torqueByDistances_5 : decode cX4_torqueByDistances 5 = .ok (.aload_n 1, 1) := by decide +kernel
theorem dX4_torqueByDistances_6 : decode cX4_torqueByDistances 6 = .ok (.getfield 155, 3) := by decide +kernel
theorem dX4_torqueByDistances_9 : decode cX4_torqueByDistances 9 = .ok (.if_icmp .gt 46, 3) := by decide +kernel
theorem dX4_torqueByDistances_12 : decode cX4_torqueByDistances 12 = .ok (.iload_n 3, 1) := by decide +kernel
theorem dX4_torqueByDistances_13 : decode cX4_torqueByDistances 13 = .ok (.istore 4, 2) := by decide +kernel
theorem dX4_torqueByDistances_15 : decode cX4_torqueByDistances 15 = .ok (.iload 4, 2) := by decide +kernel
theorem dX4_torqueByDistances_17 : decode cX4_torqueByDistances 17 = .ok (.aload_n 1, 1) := by decide +kernel
theorem dX4_torqueByDistances_18 : decode cX4_torqueByDistances 18 = .ok (.getfield 155, 3) := by decide +kernel
theorem dX4_torqueByDistances_21 : decode cX4_torqueByDistances 21 = .ok (.if_icmp .gt 28, 3) := by decide +kernel
theorem dX4_torqueByDistances_24 : decode cX4_torqueByDistances 24 = .ok (.iload_n 2, 1) := by decide +kernel
theorem dX4_torqueByDistances_25 : decode cX4_torqueByDistances 25 = .ok (.aload_n 0, 1) := by decide +kernel
theorem dX4_torqueByDistances_26 : decode cX4_torqueByDistances 26 = .ok (.aload_n 1, 1) := by decide +kernel
theorem dX4_torqueByDistances_27 : decode cX4_torqueByDistances 27 = .ok (.iload 4, 2) := by decide +kernel
theorem dX4_torqueByDistances_29 : decode cX4_torqueByDistances 29 = .ok (.invokevirtual 246, 3) := by decide +kernel
theorem dX4_torqueByDistances_32 : decode cX4_torqueByDistances 32 = .ok (.aload_n 0, 1) := by decide +kernel
theorem dX4_torqueByDistances_33 : decode cX4_torqueByDistances 33 = .ok (.aload_n 1, 1) := by decide +kernel
theorem dX4_torqueByDistances_34 : decode cX4_torqueByDistances 34 = .ok (.iload 4, 2) := by decide +kernel
theorem dX4_torqueByDistances_36 : decode cX4_torqueByDistances 36 = .ok (.ineg, 1) := by decide +kernel
theorem dX4_torqueByDistances_37 : decode cX4_torqueByDistances 37 = .ok (.invokevirtual 246, 3) := by decide +kernel
theorem dX4_torqueByDistances_40 : decode cX4_torqueByDistances 40 = .ok (.isub, 1) := by decide +kernel
theorem dX4_torqueByDistances_41 : decode cX4_torqueByDistances 41 = .ok (.iadd, 1) := by decide +kernel
theorem dX4_torqueByDistances_42 : decode cX4_torqueByDistances 42 = .ok (.istore_n 2, 1) := by decide +kernel
theorem dX4_torqueByDistances_43 : decode cX4_torqueByDistances 43 = .ok (.iinc 4 1, 3) := by decide +kernel
theorem dX4_torqueByDistances_46 : decode cX4_torqueByDistances 46 = .ok (.goto (-31), 3) := by decide +kernel
theorem dX4_torqueByDistances_49 : decode cX4_torqueByDistances 49 = .ok (.iinc 3 1, 3) := by decide +kernel
theorem dX4_torqueByDistances_52 : decode cX4_torqueByDistances 52 = .ok (.goto (-48), 3) := by decide +kernel
theorem dX4_torqueByDistances_55 : decode cX4_torqueByDistances 55 = .ok (.iload_n 2, 1) := by decide +kernel
theorem dX4_torqueByDistances_56 : decode cX4_torqueByDistances 56 = .ok (.ireturn, 1) := by decide +kernel
theorem dX4_weightOn_0 : decode cX4_weightOn 0 = .ok (.aload_n 0, 1) := by decide +kernel
theorem dX4_weightOn_1 : decode cX4_weightOn 1 = .ok (.aload_n 1, 1) := by decide +kernel
theorem dX4_weightOn_2 : decode cX4_weightOn 2 = .ok (.iload_n 2, 1) := by decide +kernel
theorem dX4_weightOn_3 : decode cX4_weightOn 3 = .ok (.invokevirtual 227, 3) := by decide +kernel
theorem dX4_weightOn_6 : decode cX4_weightOn 6 = .ok (.invokevirtual 230, 3) := by decide +kernel
theorem dX4_weightOn_9 : decode cX4_weightOn 9 = .ok (.astore_n 3, 1) := by decide +kernel
theorem dX4_weightOn_10 : decode cX4_weightOn 10 = .ok (.aload_n 3, 1) := by decide +kernel
theorem dX4_weightOn_11 : decode cX4_weightOn 11 = .ok (.ifnonnull 7, 3) := by decide +kernel
theorem dX4_weightOn_14 : decode cX4_weightOn 14 = .ok (.iconst 0, 1) := by decide +kernel
theorem dX4_weightOn_15 : decode cX4_weightOn 15 = .ok (.goto 7, 3) := by decide +kernel
theorem dX4_weightOn_18 : decode cX4_weightOn 18 = .ok (.aload_n 3, 1) := by decide +kernel
theorem dX4_weightOn_19 : decode cX4_weightOn 19 = .ok (.getfield 99, 3) := by decide +kernel
theorem dX4_weightOn_22 : decode cX4_weightOn 22 = .ok (.ireturn, 1) := by decide +kernel
theorem dX4_wrongSeats_0 : decode cX4_wrongSeats 0 = .ok (.iconst 0, 1) := by decide +kernel
theorem dX4_wrongSeats_1 : decode cX4_wrongSeats 1 = .ok (.istore_n 2, 1) := by decide +kernel
theorem dX4_wrongSeats_2 : decode cX4_wrongSeats 2 = .ok (.aload_n 1, 1) := by decide +kernel
theorem dX4_wrongSeats_3 : decode cX4_wrongSeats 3 = .ok (.getfield 155, 3) := by decide +kernel
theorem dX4_wrongSeats_6 : decode cX4_wrongSeats 6 = .ok (.ineg, 1) := by decide +kernel
theorem dX4_wrongSeats_7 : decode cX4_wrongSeats 7 = .ok (.istore_n 3, 1) := by decide +kernel
theorem dX4_wrongSeats_8 : decode cX4_wrongSeats 8 = .ok (.iload_n 3, 1) := by decide +kernel
theorem dX4_wrongSeats_9 : decode cX4_wrongSeats 9 = .ok (.aload_n 1, 1) := by decide +kernel
theorem dX4_wrongSeats_10 : decode cX4_wrongSeats 10 = .ok (.getfield 155, 3) := by decide +kernel
theorem dX4_wrongSeats_13 : decode cX4_wrongSeats 13 = .ok (.if_icmp .gt 49, 3) := by decide +kernel
theorem dX4_wrongSeats_16 : decode cX4_wrongSeats 16 = .ok (.aload_n 0, 1) := by decide +kernel
theorem dX4_wrongSeats_17 : decode cX4_wrongSeats 17 = .ok (.aload_n 1, 1) := by decide +kernel
theorem dX4_wrongSeats_18 : decode cX4_wrongSeats 18 = .ok (.iload_n 3, 1) := by decide +kernel
theorem dX4_wrongSeats_19 : decode cX4_wrongSeats 19 = .ok (.invokevirtual 227, 3) := by decide +kernel
theorem dX4_wrongSeats_22 : decode cX4_wrongSeats 22 = .ok (.invokevirtual 230, 3) := by decide +kernel
theorem dX4_wrongSeats_25 : decode cX4_wrongSeats 25 = .ok (.astore 4, 2) := by decide +kernel
theorem dX4_wrongSeats_27 : decode cX4_wrongSeats 27 = .ok (.aload 4, 2) := by decide +kernel
theorem dX4_wrongSeats_29 : decode cX4_wrongSeats 29 = .ok (.ifnull 27, 3) := by decide +kernel
theorem dX4_wrongSeats_32 : decode cX4_wrongSeats 32 = .ok (.aload 4, 2) := by decide +kernel
theorem dX4_wrongSeats_34 : decode cX4_wrongSeats 34 = .ok (.getfield 112, 3) := by decide +kernel
theorem dX4_wrongSeats_37 : decode cX4_wrongSeats 37 = .ok (.aload_n 1, 1) := by decide +kernel
theorem dX4_wrongSeats_38 : decode cX4_wrongSeats 38 = .ok (.getfield 121, 3) := by decide +kernel
theorem dX4_wrongSeats_41 : decode cX4_wrongSeats 41 = .ok (.if_icmp .ne 12, 3) := by decide +kernel
theorem dX4_wrongSeats_44 : decode cX4_wrongSeats 44 = .ok (.aload 4, 2) := by decide +kernel
theorem dX4_wrongSeats_46 : decode cX4_wrongSeats 46 = .ok (.getfield 115, 3) := by decide +kernel
theorem dX4_wrongSeats_49 : decode cX4_wrongSeats 49 = .ok (.iload_n 3, 1) := by decide +kernel
theorem dX4_wrongSeats_50 : decode cX4_wrongSeats 50 = .ok (.if_icmp .eq 6, 3) := by decide +kernel
theorem dX4_wrongSeats_53 : decode cX4_wrongSeats 53 = .ok (.iinc 2 1, 3) := by decide +kernel
theorem dX4_wrongSeats_56 : decode cX4_wrongSeats 56 = .ok (.iinc 3 1, 3) := by decide +kernel
theorem dX4_wrongSeats_59 : decode cX4_wrongSeats 59 = .ok (.goto (-51), 3) := by decide +kernel
theorem dX4_wrongSeats_62 : decode cX4_wrongSeats 62 = .ok (.iload_n 2, 1) := by decide +kernel
theorem dX4_wrongSeats_63 : decode cX4_wrongSeats 63 = .ok (.ireturn, 1) := by decide +kernel
theorem dX6_init_0 : decode cX6_init 0 = .ok (.aload_n 0, 1) := by decide +kernel
theorem dX6_init_1 : decode cX6_init 1 = .ok (.invokespecial 3, 3) := by decide +kernel
theorem dX6_init_4 : decode cX6_init 4 = .ok (.aload_n 0, 1) := by decide +kernel
theorem dX6_init_5 : decode cX6_init 5 = .ok (.bipush 30, 2) := by decide +kernel
theorem dX6_init_7 : decode cX6_init 7 = .ok (.anewarray 9, 3) := by decide +kernel
theorem dX6_init_10 : decode cX6_init 10 = .ok (.putfield 11, 3) := by decide +kernel
theorem dX6_init_13 : decode cX6_init 13 = .ok (.aload_n 0, 1) := by decide +kernel
theorem dX6_init_14 : decode cX6_init 14 = .ok (.iconst 2, 1) := by decide +kernel
theorem dX6_init_15 : decode cX6_init 15 = .ok (.newarray .int, 2) := by decide +kernel
theorem dX6_init_17 : decode cX6_init 17 = .ok (.putfield 17, 3) := by decide +kernel
theorem dX6_init_20 : decode cX6_init 20 = .ok (.aload_n 0, 1) := by decide +kernel
theorem dX6_init_21 : decode cX6_init 21 = .ok (.bipush 40, 2) := by decide +kernel
theorem dX6_init_23 : decode cX6_init 23 = .ok (.newarray .int, 2) := by decide +kernel
theorem dX6_init_25 : decode cX6_init 25 = .ok (.putfield 21, 3) := by decide +kernel
theorem dX6_init_28 : decode cX6_init 28 = .ok (.iconst 0, 1) := by decide +kernel
theorem dX6_init_29 : decode cX6_init 29 = .ok (.istore_n 1, 1) := by decide +kernel
theorem dX6_init_30 : decode cX6_init 30 = .ok (.iload_n 1, 1) := by decide +kernel
theorem dX6_init_31 : decode cX6_init 31 = .ok (.aload_n 0, 1) := by decide +kernel
theorem dX6_init_32 : decode cX6_init 32 = .ok (.getfield 11, 3) := by decide +kernel
theorem dX6_init_35 : decode cX6_init 35 = .ok (.arraylength, 1) := by decide +kernel
theorem dX6_init_36 : decode cX6_init 36 = .ok (.if_icmp .ge 22, 3) := by decide +kernel
theorem dX6_init_39 : decode cX6_init 39 = .ok (.aload_n 0, 1) := by decide +kernel
theorem dX6_init_40 : decode cX6_init 40 = .ok (.getfield 11, 3) := by decide +kernel
theorem dX6_init_43 : decode cX6_init 43 = .ok (.iload_n 1, 1) := by decide +kernel
theorem dX6_init_44 : decode cX6_init 44 = .ok (.new 9, 3) := by decide +kernel
theorem dX6_init_47 : decode cX6_init 47 = .ok (.dup, 1) := by decide +kernel
theorem dX6_init_48 : decode cX6_init 48 = .ok (.invokespecial 24, 3) := by decide +kernel
theorem dX6_init_51 : decode cX6_init 51 = .ok (.aastore, 1) := by decide +kernel
theorem dX6_init_52 : decode cX6_init 52 = .ok (.iinc 1 1, 3) := by decide +kernel
theorem dX6_init_55 : decode cX6_init 55 = .ok (.goto (-25), 3) := by decide +kernel
theorem dX6_init_58 : decode cX6_init 58 = .ok (.return_, 1) := by decide +kernel
theorem dX6_stepAt_0 : decode cX6_stepAt 0 = .ok (.aload_n 0, 1) := by decide +kernel
theorem dX6_stepAt_1 : decode cX6_stepAt 1 = .ok (.iload_n 1, 1) := by decide +kernel
theorem dX6_stepAt_2 : decode cX6_stepAt 2 = .ok (.ifCond .lt 21, 3) := by decide +kernel
theorem dX6_stepAt_5 : decode cX6_stepAt 5 = .ok (.iload_n 1, 1) := by decide +kernel
theorem dX6_stepAt_6 : decode cX6_stepAt 6 = .ok (.aload_n 0, 1) := by decide +kernel
theorem dX6_stepAt_7 : decode cX6_stepAt 7 = .ok (.getfield 21, 3) := by decide +kernel
theorem dX6_stepAt_10 : decode cX6_stepAt 10 = .ok (.arraylength, 1) := by decide +kernel
theorem dX6_stepAt_11 : decode cX6_stepAt 11 = .ok (.if_icmp .ge 12, 3) := by decide +kernel
theorem dX6_stepAt_14 : decode cX6_stepAt 14 = .ok (.aload_n 0, 1) := by decide +kernel
theorem dX6_stepAt_15 : decode cX6_stepAt 15 = .ok (.getfield 21, 3) := by decide +kernel
theorem dX6_stepAt_18 : decode cX6_stepAt 18 = .ok (.iload_n 1, 1) := by decide +kernel
theorem dX6_stepAt_19 : decode cX6_stepAt 19 = .ok (.iaload, 1) := by decide +kernel
theorem dX6_stepAt_20 : decode cX6_stepAt 20 = .ok (.goto 4, 3) := by decide +kernel
theorem dX6_stepAt_23 : decode cX6_stepAt 23 = .ok (.iconst 0, 1) := by decide +kernel
theorem dX6_stepAt_24 : decode cX6_stepAt 24 = .ok (.invokevirtual 25, 3) := by decide +kernel
theorem dX6_stepAt_27 : decode cX6_stepAt 27 = .ok (.areturn, 1) := by decide +kernel
theorem dX6_commandAt_0 : decode cX6_commandAt 0 = .ok (.aload_n 0, 1) := by decide +kernel
theorem dX6_commandAt_1 : decode cX6_commandAt 1 = .ok (.getfield 11, 3) := by decide +kernel
theorem dX6_commandAt_4 : decode cX6_commandAt 4 = .ok (.iload_n 1, 1) := by decide +kernel
theorem dX6_commandAt_5 : decode cX6_commandAt 5 = .ok (.ifCond .lt 16, 3) := by decide +kernel
theorem dX6_commandAt_8 : decode cX6_commandAt 8 = .ok (.iload_n 1, 1) := by decide +kernel
theorem dX6_commandAt_9 : decode cX6_commandAt 9 = .ok (.aload_n 0, 1) := by decide +kernel
theorem dX6_commandAt_10 : decode cX6_commandAt 10 = .ok (.getfield 11, 3) := by decide +kernel
theorem dX6_commandAt_13 : decode cX6_commandAt 13 = .ok (.arraylength, 1) := by decide +kernel
theorem dX6_commandAt_14 : decode cX6_commandAt 14 = .ok (.if_icmp .ge 7, 3) := by decide +kernel
theorem dX6_commandAt_17 : decode cX6_commandAt 17 = .ok (.iload_n 1, 1) := by decide +kernel
theorem dX6_commandAt_18 : decode cX6_commandAt 18 = .ok (.goto 4, 3) := by decide +kernel
theorem dX6_commandAt_21 : decode cX6_commandAt 21 = .ok (.iconst 0, 1) := by decide +kernel
theorem dX6_commandAt_22 : decode cX6_commandAt 22 = .ok (.aaload, 1) := by decide +kernel
theorem dX6_commandAt_23 : decode cX6_commandAt 23 = .ok (.areturn, 1) := by decide +kernel
theorem dX6_read_0 : decode cX6_read 0 = .ok (.aload_n 0, 1) := by decide +kernel
theorem dX6_read_1 : decode cX6_read 1 = .ok (.iconst 0, 1) := by decide +kernel
theorem dX6_read_2 : decode cX6_read 2 = .ok (.putfield 29, 3) := by decide +kernel
theorem dX6_read_5 : decode cX6_read 5 = .ok (.aload_n 0, 1) := by decide +kernel
theorem dX6_read_6 : decode cX6_read 6 = .ok (.iconst 0, 1) := by decide +kernel
theorem dX6_read_7 : decode cX6_read 7 = .ok (.putfield 33, 3) := by decide +kernel
theorem dX6_read_10 : decode cX6_read 10 = .ok (.aload_n 0, 1) := by decide +kernel
theorem dX6_read_11 : decode cX6_read 11 = .ok (.iconst 0, 1) := by decide +kernel
theorem dX6_read_12 : decode cX6_read 12 = .ok (.putfield 36, 3) := by decide +kernel
theorem dX6_read_15 : decode cX6_read 15 = .ok (.iconst 0, 1) := by decide +kernel
theorem dX6_read_16 : decode cX6_read 16 = .ok (.istore_n 2, 1) := by decide +kernel
theorem dX6_read_17 : decode cX6_read 17 = .ok (.iload_n 2, 1) := by decide +kernel
theorem dX6_read_18 : decode cX6_read 18 = .ok (.sipush 800, 3) := by decide +kernel
theorem dX6_read_21 : decode cX6_read 21 = .ok (.if_icmp .ge 45, 3) := by decide +kernel
theorem dX6_read_24 : decode cX6_read 24 = .ok (.aload_n 1, 1) := by decide +kernel
theorem dX6_read_25 : decode cX6_read 25 = .ok (.invokevirtual 39, 3) := by decide +kernel
theorem dX6_read_28 : decode cX6_read 28 = .ok (.ifCond .ne 38, 3) := by decide +kernel
theorem dX6_read_31 : decode cX6_read 31 = .ok (.aload_n 0, 1) := by decide +kernel
theorem dX6_read_32 : decode cX6_read 32 = .ok (.getfield 33, 3) := by decide +kernel
theorem dX6_read_35 : decode cX6_read 35 = .ok (.ifCond .le 20, 3) := by decide +kernel
theorem dX6_read_38 : decode cX6_read 38 = .ok (.aload_n 1, 1) := by decide +kernel
theorem dX6_read_39 : decode cX6_read 39 = .ok (.bipush 41, 2) := by decide +kernel
theorem dX6_read_41 : decode cX6_read 41 = .ok (.invokevirtual 45, 3) := by decide +kernel
theorem dX6_read_44 : decode cX6_read 44 = .ok (.ifCond .eq 11, 3) := by decide +kernel
theorem dX6_read_47 : decode cX6_read 47 = .ok (.aload_n 0, 1) := by decide +kernel
theorem dX6_read_48 : decode cX6_read 48 = .ok (.aload_n 1, 1) := by decide +kernel
theorem dX6_read_49 : decode cX6_read 49 = .ok (.invokevirtual 49, 3) := by decide +kernel
theorem dX6_read_52 : decode cX6_read 52 = .ok (.goto 8, 3) := by decide +kernel
theorem dX6_read_55 : decode cX6_read 55 = .ok (.aload_n 0, 1) := by decide +kernel
theorem dX6_read_56 : decode cX6_read 56 = .ok (.aload_n 1, 1) := by decide +kernel
theorem dX6_read_57 : decode cX6_read 57 = .ok (.invokevirtual 53, 3) := by decide +kernel
theorem dX6_read_60 : decode cX6_read 60 = .ok (.iinc 2 1, 3) := by decide +kernel
theorem dX6_read_63 : decode cX6_read 63 = .ok (.goto (-46), 3) := by decide +kernel
theorem dX6_read_66 : decode cX6_read 66 = .ok (.aload_n 0, 1) := by decide +kernel
theorem dX6_read_67 : decode cX6_read 67 = .ok (.getfield 33, 3) := by decide +kernel
theorem dX6_read_70 : decode cX6_read 70 = .ok (.ifCond .le 8, 3) := by decide +kernel
theorem dX6_read_73 : decode cX6_read 73 = .ok (.aload_n 1, 1) := by decide +kernel
theorem dX6_read_74 : decode cX6_read 74 = .ok (.iconst 1, 1) := by decide +kernel
theorem dX6_read_75 : decode cX6_read 75 = .ok (.invokevirtual 56, 3) := by decide +kernel
theorem dX6_read_78 : decode cX6_read 78 = .ok (.aload_n 1, 1) := by decide +kernel
theorem dX6_read_79 : decode cX6_read 79 = .ok (.invokevirtual 60, 3) := by decide +kernel
theorem dX6_read_82 : decode cX6_read 82 = .ok (.ifCond .ne 13, 3) := by decide +kernel
theorem dX6_read_85 : decode cX6_read 85 = .ok (.aload_n 0, 1) := by decide +kernel
theorem dX6_read_86 : decode cX6_read 86 = .ok (.iconst 0, 1) := by decide +kernel
theorem dX6_read_87 : decode cX6_read 87 = .ok (.aload_n 0, 1) := by decide +kernel
theorem dX6_read_88 : decode cX6_read 88 = .ok (.getfield 29, 3) := by decide +kernel
theorem dX6_read_91 : decode cX6_read 91 = .ok (.iconst 0, 1) := by decide +kernel
theorem dX6_read_92 : decode cX6_read 92 = .ok (.invokevirtual 63, 3) := by decide +kernel
theorem dX6_read_95 : decode cX6_read 95 = .ok (.return_, 1) := by decide +kernel
theorem dX6_readCommand_0 : decode cX6_readCommand 0 = .ok (.aload_n 1, 1) := by decide +kernel
theorem dX6_readCommand_1 : decode cX6_readCommand 1 = .ok (.invokestatic 67, 3) := by decide +kernel
theorem dX6_readCommand_4 : decode cX6_readCommand 4 = .ok (.istore_n 2, 1) := by decide +kernel
theorem dX6_readCommand_5 : decode cX6_readCommand 5 = .ok (.iload_n 2, 1) := by decide +kernel
theorem dX6_readCommand_6 : decode cX6_readCommand 6 = .ok (.iconst (-1), 1) := by decide +kernel
theorem dX6_readCommand_7 : decode cX6_readCommand 7 = .ok (.if_icmp .ne 9, 3) := by decide +kernel
theorem dX6_readCommand_10 : decode cX6_readCommand 10 = .ok (.aload_n 1, 1) := by decide +kernel
theorem dX6_readCommand_11 : decode cX6_readCommand 11 = .ok (.iconst 1, 1) := by decide +kernel
theorem dX6_readCommand_12 : decode cX6_readCommand 12 = .ok (.invokevirtual 56, 3) := by decide +kernel
theorem dX6_readCommand_15 : decode cX6_readCommand 15 = .ok (.return_, 1) := by decide +kernel
theorem dX6_readCommand_16 : decode cX6_readCommand 16 = .ok (.aload_n 0, 1) := by decide +kernel
theorem dX6_readCommand_17 : decode cX6_readCommand 17 = .ok (.getfield 29, 3) := by decide +kernel
theorem dX6_readCommand_20 : decode cX6_readCommand 20 = .ok (.aload_n 0, 1) := by decide +kernel
theorem dX6_readCommand_21 : decode cX6_readCommand 21 = .ok (.getfield 11, 3) := by decide +kernel
theorem dX6_readCommand_24 : decode cX6_readCommand 24 = .ok (.arraylength, 1) := by decide +kernel
theorem dX6_readCommand_25 : decode cX6_readCommand 25 = .ok (.if_icmp .lt 9, 3) := by decide +kernel
theorem dX6_readCommand_28 : decode cX6_readCommand 28 = .ok (.aload_n 1, 1) := by decide +kernel
theorem dX6_readCommand_29 : decode cX6_readCommand 29 = .ok (.iconst 5, 1) := by decide +kernel
theorem dX6_readCommand_30 : decode cX6_readCommand 30 = .ok (.invokevirtual 56, 3) := by decide +kernel
theorem dX6_readCommand_33 : decode cX6_readCommand 33 = .ok (.return_, 1) := by decide +kernel
theorem dX6_readCommand_34 : decode cX6_readCommand 34 = .ok (.aload_n 0, 1) := by decide +kernel
theorem dX6_readCommand_35 : decode cX6_readCommand 35 = .ok (.getfield 11, 3) := by decide +kernel
theorem dX6_readCommand_38 : decode cX6_readCommand 38 = .ok (.aload_n 0, 1) := by decide +kernel
theorem dX6_readCommand_39 : decode cX6_readCommand 39 = .ok (.getfield 29, 3) := by decide +kernel
theorem dX6_readCommand_42 : decode cX6_readCommand 42 = .ok (.aaload, 1) := by decide +kernel
theorem dX6_readCommand_43 : decode cX6_readCommand 43 = .ok (.astore_n 3, 1) := by decide +kernel
theorem dX6_readCommand_44 : decode cX6_readCommand 44 = .ok (.aload_n 0, 1) := by decide +kernel
theorem dX6_readCommand_45 : decode cX6_readCommand 45 = .ok (.dup, 1) := by decide +kernel
theorem dX6_readCommand_46 : decode cX6_readCommand 46 = .ok (.getfield 29, 3) := by decide +kernel
theorem dX6_readCommand_49 : decode cX6_readCommand 49 = .ok (.iconst 1, 1) := by decide +kernel
theorem dX6_readCommand_50 : decode cX6_readCommand 50 = .ok (.iadd, 1) := by decide +kernel
theorem dX6_readCommand_51 : decode cX6_readCommand 51 = .ok (.putfield 29, 3) := by decide +kernel
theorem dX6_readCommand_54 : decode cX6_readCommand 54 = .ok (.aload_n 3, 1) := by decide +kernel
theorem dX6_readCommand_55 : decode cX6_readCommand 55 = .ok (.iload_n 2, 1) := by decide +kernel
theorem dX6_readCommand_56 : decode cX6_readCommand 56 = .ok (.putfield 71, 3) := by decide +kernel
theorem dX6_readCommand_59 : decode cX6_readCommand 59 = .ok (.aload_n 1, 1) := by decide +kernel
theorem dX6_readCommand_60 : decode cX6_readCommand 60 = .ok (.invokevirtual 74, 3) := by decide +kernel
theorem dX6_readCommand_63 : decode cX6_readCommand 63 = .ok (.aload_n 3, 1) := by decide +kernel
theorem dX6_readCommand_64 : decode cX6_readCommand 64 = .ok (.aload_n 1, 1) := by decide +kernel
theorem dX6_readCommand_65 : decode cX6_readCommand 65 = .ok (.invokevirtual 77, 3) := by decide +kernel
theorem dX6_readCommand_68 : decode cX6_readCommand 68 = .ok (.iload_n 2, 1) := by decide +kernel
theorem dX6_readCommand_69 : decode cX6_readCommand 69 = .ok (.bipush 8, 2) := by decide +kernel
theorem dX6_readCommand_71 : decode cX6_readCommand 71 = .ok (.if_icmp .ne 11, 3) := by decide +kernel
theorem dX6_readCommand_74 : decode cX6_readCommand 74 = .ok (.aload_n 0, 1) := by decide +kernel
theorem dX6_readCommand_75 : decode cX6_readCommand 75 = .ok (.aload_n 1, 1) := by decide +kernel
theorem dX6_readCommand_76 : decode cX6_readCommand 76 = .ok (.invokevirtual 80, 3) := by decide +kernel
theorem dX6_readCommand_79 : decode cX6_readCommand 79 = .ok (.goto 9, 3) := by decide +kernel
theorem dX6_readCommand_82 : decode cX6_readCommand 82 = .ok (.aload_n 1, 1) := by decide +kernel
theorem dX6_readCommand_83 : decode cX6_readCommand 83 = .ok (.bipush 59, 2) := by decide +kernel
theorem dX6_readCommand_85 : decode cX6_readCommand 85 = .ok (.invokevirtual 83, 3) := by decide +kernel
theorem dX6_readCommand_88 : decode cX6_readCommand 88 = .ok (.return_, 1) := by decide +kernel
theorem dX6_openBracket_0 : decode cX6_openBracket 0 = .ok (.aload_n 0, 1) := by decide +kernel
theorem dX6_openBracket_1 : decode cX6_openBracket 1 = .ok (.getfield 33, 3) := by decide +kernel
theorem dX6_openBracket_4 : decode cX6_openBracket 4 = .ok (.aload_n 0, 1) := by decide +kernel
theorem dX6_openBracket_5 : decode cX6_openBracket 5 = .ok (.getfield 17, 3) := by decide +kernel
theorem dX6_openBracket_8 : decode cX6_openBracket 8 = .ok (.arraylength, 1) := by decide +kernel
theorem dX6_openBracket_9 : decode cX6_openBracket 9 = .ok (.if_icmp .lt 22, 3) := by decide +kernel
theorem dX6_openBracket_12 : decode cX6_openBracket 12 = .ok (.aload_n 1, 1) := by decide +kernel
theorem dX6_openBracket_13 : decode cX6_openBracket 13 = .ok (.aload_n 1, 1) := by decide +kernel
theorem dX6_openBracket_14 : decode cX6_openBracket 14 = .ok (.bipush 40, 2) := by decide +kernel
theorem dX6_openBracket_16 : decode cX6_openBracket 16 = .ok (.invokevirtual 45, 3) := by decide +kernel
theorem dX6_openBracket_19 : decode cX6_openBracket 19 = .ok (.ifCond .eq 7, 3) := by decide +kernel
theorem dX6_openBracket_22 : decode cX6_openBracket 22 = .ok (.iconst 5, 1) := by decide +kernel
theorem dX6_openBracket_23 : decode cX6_openBracket 23 = .ok (.goto 4, 3) := by decide +kernel
theorem dX6_openBracket_26 : decode cX6_openBracket 26 = .ok (.iconst 1, 1) := by decide +kernel
theorem dX6_openBracket_27 : decode cX6_openBracket 27 = .ok (.invokevirtual 56, 3) := by decide +kernel
theorem dX6_openBracket_30 : decode cX6_openBracket 30 = .ok (.return_, 1) := by decide +kernel
theorem dX6_openBracket_31 : decode cX6_openBracket 31 = .ok (.aload_n 1, 1) := by decide +kernel
theorem dX6_openBracket_32 : decode cX6_openBracket 32 = .ok (.bipush 40, 2) := by decide +kernel
theorem dX6_openBracket_34 : decode cX6_openBracket 34 = .ok (.invokevirtual 83, 3) := by decide +kernel
theorem dX6_openBracket_37 : decode cX6_openBracket 37 = .ok (.aload_n 0, 1) := by decide +kernel
theorem dX6_openBracket_38 : decode cX6_openBracket 38 = .ok (.getfield 17, 3) := by decide +kernel
theorem dX6_openBracket_41 : decode cX6_openBracket 41 = .ok (.aload_n 0, 1) := by decide +kernel
theorem dX6_openBracket_42 : decode cX6_openBracket 42 = .ok (.getfield 33, 3) := by decide +kernel
theorem dX6_openBracket_45 : decode cX6_openBracket 45 = .ok (.aload_n 0, 1) := by decide +kernel
theorem dX6_openBracket_46 : decode cX6_openBracket 46 = .ok (.getfield 29, 3) := by decide +kernel
theorem dX6_openBracket_49 : decode cX6_openBracket 49 = .ok (.iconst 1, 1) := by decide +kernel
theorem dX6_openBracket_50 : decode cX6_openBracket 50 = .ok (.isub, 1) := by decide +kernel
theorem dX6_openBracket_51 : decode cX6_openBracket 51 = .ok (.iastore, 1) := by decide +kernel
theorem dX6_openBracket_52 : decode cX6_openBracket 52 = .ok (.aload_n 0, 1) := by decide +kernel
theorem dX6_openBracket_53 : decode cX6_openBracket 53 = .ok (.dup, 1) := by decide +kernel
theorem dX6_openBracket_54 : decode cX6_openBracket 54 = .ok (.getfield 33, 3) := by decide +kernel
theorem dX6_openBracket_57 : decode cX6_openBracket 57 = .ok (.iconst 1, 1) := by decide +kernel
theorem dX6_openBracket_58 : decode cX6_openBracket 58 = .ok (.iadd, 1) := by decide +kernel
theorem dX6_openBracket_59 : decode cX6_openBracket 59 = .ok (.putfield 33, 3) := by decide +kernel
theorem dX6_openBracket_62 : decode cX6_openBracket 62 = .ok (.return_, 1) := by decide +kernel
theorem dX6_closeBracket_0 : decode cX6_closeBracket 0 = .ok (.aload_n 1, 1) := by decide +kernel
theorem dX6_closeBracket_1 : decode cX6_closeBracket 1 = .ok (.bipush 41, 2) := by decide +kernel
theorem dX6_closeBracket_3 : decode cX6_closeBracket 3 = .ok (.invokevirtual 83, 3) := by decide +kernel
theorem dX6_closeBracket_6 : decode cX6_closeBracket 6 = .ok (.aload_n 1, 1) := by decide +kernel
theorem dX6_closeBracket_7 : decode cX6_closeBracket 7 = .ok (.bipush 59, 2) := by decide +kernel
theorem dX6_closeBracket_9 : decode cX6_closeBracket 9 = .ok (.invokevirtual 83, 3) := by decide +kernel
theorem dX6_closeBracket_12 : decode cX6_closeBracket 12 = .ok (.aload_n 0, 1) := by decide +kernel
theorem dX6_closeBracket_13 : decode cX6_closeBracket 13 = .ok (.getfield 33, 3) := by decide +kernel
theorem dX6_closeBracket_16 : decode cX6_closeBracket 16 = .ok (.ifCond .le 45, 3) := by decide +kernel
theorem dX6_closeBracket_19 : decode cX6_closeBracket 19 = .ok (.aload_n 0, 1) := by decide +kernel
theorem dX6_closeBracket_20 : decode cX6_closeBracket 20 = .ok (.getfield 33, 3) := by decide +kernel
theorem dX6_closeBracket_23 : decode cX6_closeBracket 23 = .ok (.aload_n 0, 1) := by decide +kernel
theorem dX6_closeBracket_24 : decode cX6_closeBracket 24 = .ok (.getfield 17, 3) := by decide +kernel
theorem dX6_closeBracket_27 : decode cX6_closeBracket 27 = .ok (.arraylength, 1) := by decide +kernel
theorem dX6_closeBracket_28 : decode cX6_closeBracket 28 = .ok (.if_icmp .gt 33, 3) := by decide +kernel
theorem dX6_closeBracket_31 : decode cX6_closeBracket 31 = .ok (.aload_n 0, 1) := by decide +kernel
theorem dX6_closeBracket_32 : decode cX6_closeBracket 32 = .ok (.dup, 1) := by decide +kernel
theorem dX6_closeBracket_33 : decode cX6_closeBracket 33 = .ok (.getfield 33, 3) := by decide +kernel
theorem dX6_closeBracket_36 : decode cX6_closeBracket 36 = .ok (.iconst 1, 1) := by decide +kernel
theorem dX6_closeBracket_37 : decode cX6_closeBracket 37 = .ok (.isub, 1) := by decide +kernel
theorem dX6_closeBracket_38 : decode cX6_closeBracket 38 = .ok (.putfield 33, 3) := by decide +kernel
theorem dX6_closeBracket_41 : decode cX6_closeBracket 41 = .ok (.aload_n 0, 1) := by decide +kernel
theorem dX6_closeBracket_42 : decode cX6_closeBracket 42 = .ok (.aload_n 0, 1) := by decide +kernel
theorem dX6_closeBracket_43 : decode cX6_closeBracket 43 = .ok (.getfield 17, 3) := by decide +kernel
theorem dX6_closeBracket_46 : decode cX6_closeBracket 46 = .ok (.aload_n 0, 1) := by decide +kernel
theorem dX6_closeBracket_47 : decode cX6_closeBracket 47 = .ok (.getfield 33, 3) := by decide +kernel
theorem dX6_closeBracket_50 : decode cX6_closeBracket 50 = .ok (.iaload, 1) := by decide +kernel
theorem dX6_closeBracket_51 : decode cX6_closeBracket 51 = .ok (.invokevirtual 25, 3) := by decide +kernel
theorem dX6_closeBracket_54 : decode cX6_closeBracket 54 = .ok (.aload_n 0, 1) := by decide +kernel
theorem dX6_closeBracket_55 : decode cX6_closeBracket 55 = .ok (.getfield 29, 3) := by decide +kernel
theorem dX6_closeBracket_58 : decode cX6_closeBracket 58 = .ok (.putfield 87, 3) := by decide +kernel
theorem dX6_closeBracket_61 : decode cX6_closeBracket 61 = .ok (.return_, 1) := by decide +kernel
theorem dX6_unroll_0 : decode cX6_unroll 0 = .ok (.iload_n 1, 1) := by decide +kernel
theorem dX6_unroll_1 : decode cX6_unroll 1 = .ok (.istore 4, 2) := by decide +kernel
theorem dX6_unroll_3 : decode cX6_unroll 3 = .ok (.iload_n 1, 1) := by decide +kernel
theorem dX6_unroll_4 : decode cX6_unroll 4 = .ok (.istore 5, 2) := by decide +kernel
theorem dX6_unroll_6 : decode cX6_unroll 6 = .ok (.iload 5, 2) := by decide +kernel
theorem dX6_unroll_8 : decode cX6_unroll 8 = .ok (.iload_n 2, 1) := by decide +kernel
theorem dX6_unroll_9 : decode cX6_unroll 9 = .ok (.if_icmp .ge 120, 3) := by decide +kernel
theorem dX6_unroll_12 : decode cX6_unroll 12 = .ok (.aload_n 0, 1) := by decide +kernel
theorem dX6_unroll_13 : decode cX6_unroll 13 = .ok (.getfield 36, 3) := by decide +kernel
theorem dX6_unroll_16 : decode cX6_unroll 16 = .ok (.aload_n 0, 1) := by decide +kernel
theorem dX6_unroll_17 : decode cX6_unroll 17 = .ok (.getfield 21, 3) := by decide +kernel
theorem dX6_unroll_20 : decode cX6_unroll 20 = .ok (.arraylength, 1) := by decide +kernel
theorem dX6_unroll_21 : decode cX6_unroll 21 = .ok (.if_icmp .ge 108, 3) := by decide +kernel
theorem dX6_unroll_24 : decode cX6_unroll 24 = .ok (.iload 5, 2) := by decide +kernel
theorem dX6_unroll_26 : decode cX6_unroll 26 = .ok (.iload 4, 2) := by decide +kernel
theorem dX6_unroll_28 : decode cX6_unroll 28 = .ok (.if_icmp .ge 6, 3) := by decide +kernel
theorem dX6_unroll_31 : decode cX6_unroll 31 = .ok (.goto 92, 3) := by decide +kernel
theorem dX6_unroll_34 : decode cX6_unroll 34 = .ok (.aload_n 0, 1) := by decide +kernel
theorem dX6_unroll_35 : decode cX6_unroll 35 = .ok (.iload 5, 2) := by decide +kernel
theorem dX6_unroll_37 : decode cX6_unroll 37 = .ok (.invokevirtual 25, 3) := by decide +kernel
theorem dX6_unroll_40 : decode cX6_unroll 40 = .ok (.astore 6, 2) := by decide +kernel
theorem dX6_unroll_42 : decode cX6_unroll 42 = .ok (.aload 6, 2) := by decide +kernel
theorem dX6_unroll_44 : decode cX6_unroll 44 = .ok (.getfield 71, 3) := by decide +kernel
theorem dX6_unroll_47 : decode cX6_unroll 47 = .ok (.bipush 8, 2) := by decide +kernel
theorem dX6_unroll_49 : decode cX6_unroll 49 = .ok (.if_icmp .eq 27, 3) := by decide +kernel
theorem dX6_unroll_52 : decode cX6_unroll 52 = .ok (.aload_n 0, 1) := by decide +kernel
theorem dX6_unroll_53 : decode cX6_unroll 53 = .ok (.getfield 21, 3) := by decide +kernel
theorem dX6_unroll_56 : decode cX6_unroll 56 = .ok (.aload_n 0, 1) := by decide +kernel
theorem dX6_unroll_57 : decode cX6_unroll 57 = .ok (.getfield 36, 3) := by decide +kernel
theorem dX6_unroll_60 : decode cX6_unroll 60 = .ok (.iload 5, 2) := by decide +kernel
theorem dX6_unroll_62 : decode cX6_unroll 62 = .ok (.iastore, 1) := by decide +kernel
theorem dX6_unroll_63 : decode cX6_unroll 63 = .ok (.aload_n 0, 1) := by decide +kernel
theorem dX6_unroll_64 : decode cX6_unroll 64 = .ok (.dup, 1) := by decide +kernel
theorem dX6_unroll_65 : decode cX6_unroll 65 = .ok (.getfield 36, 3) := by decide +kernel
theorem dX6_unroll_68 : decode cX6_unroll 68 = .ok (.iconst 1, 1) := by decide +kernel
theorem dX6_unroll_69 : decode cX6_unroll 69 = .ok (.iadd, 1) := by decide +kernel
theorem dX6_unroll_70 : decode cX6_unroll 70 = .ok (.putfield 36, 3) := by decide +kernel
theorem dX6_unroll_73 : decode cX6_unroll 73 = .ok (.goto 50, 3) := by decide +kernel
theorem dX6_unroll_76 : decode cX6_unroll 76 = .ok (.iconst 0, 1) := by decide +kernel
theorem dX6_unroll_77 : decode cX6_unroll 77 = .ok (.istore 7, 2) := by decide +kernel
theorem dX6_unroll_79 : decode cX6_unroll 79 = .ok (.iload 7, 2) := by decide +kernel
theorem dX6_unroll_81 : decode cX6_unroll 81 = .ok (.aload 6, 2) := by decide +kernel
theorem dX6_unroll_83 : decode cX6_unroll 83 = .ok (.getfield 90, 3) := by decide +kernel
theorem dX6_unroll_86 : decode cX6_unroll 86 = .ok (.if_icmp .ge 30, 3) := by decide +kernel
theorem dX6_unroll_89 : decode cX6_unroll 89 = .ok (.iload_n 3, 1) := by decide +kernel
theorem dX6_unroll_90 : decode cX6_unroll 90 = .ok (.iconst 2, 1) := by decide +kernel
theorem dX6_unroll_91 : decode cX6_unroll 91 = .ok (.if_icmp .ge 25, 3) := by decide +kernel
theorem dX6_unroll_94 : decode cX6_unroll 94 = .ok (.aload_n 0, 1) := by decide +kernel
theorem dX6_unroll_95 : decode cX6_unroll 95 = .ok (.iload 5, 2) := by decide +kernel
theorem dX6_unroll_97 : decode cX6_unroll 97 = .ok (.iconst 1, 1) := by decide +kernel
theorem dX6_unroll_98 : decode cX6_unroll 98 = .ok (.iadd, 1) := by decide +kernel
theorem dX6_unroll_99 : decode cX6_unroll 99 = .ok (.aload 6, 2) := by decide +kernel
theorem dX6_unroll_101 : decode cX6_unroll 101 = .ok (.getfield 87, 3) := by decide +kernel
theorem dX6_unroll_104 : decode cX6_unroll 104 = .ok (.iload_n 3, 1) := by decide +kernel
theorem dX6_unroll_105 : decode cX6_unroll 105 = .ok (.iconst 1, 1) := by decide +kernel
theorem dX6_unroll_106 : decode cX6_unroll 106 = .ok (.iadd, 1) := by decide +kernel
theorem dX6_unroll_107 : decode cX6_unroll 107 = .ok (.invokevirtual 63, 3) := by decide +kernel
theorem dX6_unroll_110 : decode cX6_unroll 110 = .ok (.iinc 7 1, 3) := by decide +kernel
theorem dX6_unroll_113 : decode cX6_unroll 113 = .ok (.goto (-34), 3) := by decide +kernel
theorem dX6_unroll_116 : decode cX6_unroll 116 = .ok (.aload 6, 2) := by decide +kernel
theorem dX6_unroll_118 : decode cX6_unroll 118 = .ok (.getfield 87, 3) := by decide +kernel
theorem dX6_unroll_121 : decode cX6_unroll 121 = .ok (.istore 4, 2) := by decide +kernel
theorem dX6_unroll_123 : decode cX6_unroll 123 = .ok (.iinc 5 1, 3) := by decide +kernel
theorem dX6_unroll_126 : decode cX6_unroll 126 = .ok (.goto (-120), 3) := by decide +kernel
theorem dX6_unroll_129 : decode cX6_unroll 129 = .ok (.return_, 1) := by decide +kernel
theorem dX7_read_0 : decode cX7_read 0 = .ok (.aload_n 1, 1) := by decide +kernel
theorem dX7_read_1 : decode cX7_read 1 = .ok (.invokevirtual 9, 3) := by decide +kernel
theorem dX7_read_4 : decode cX7_read 4 = .ok (.aload_n 0, 1) := by decide +kernel
theorem dX7_read_5 : decode cX7_read 5 = .ok (.aload_n 1, 1) := by decide +kernel
theorem dX7_read_6 : decode cX7_read 6 = .ok (.invokestatic 14, 3) := by decide +kernel
theorem dX7_read_9 : decode cX7_read 9 = .ok (.iconst 0, 1) := by decide +kernel
theorem dX7_read_10 : decode cX7_read 10 = .ok (.istore_n 2, 1) := by decide +kernel
theorem dX7_read_11 : decode cX7_read 11 = .ok (.iload_n 2, 1) := by decide +kernel
theorem dX7_read_12 : decode cX7_read 12 = .ok (.iconst 5, 1) := by decide +kernel
theorem dX7_read_13 : decode cX7_read 13 = .ok (.if_icmp .ge 23, 3) := by decide +kernel
theorem dX7_read_16 : decode cX7_read 16 = .ok (.aload_n 0, 1) := by decide +kernel
theorem dX7_read_17 : decode cX7_read 17 = .ok (.ldc 20, 2) := by decide +kernel
theorem dX7_read_19 : decode cX7_read 19 = .ok (.invokevirtual 22, 3) := by decide +kernel
theorem dX7_read_22 : decode cX7_read 22 = .ok (.ifCond .eq 14, 3) := by decide +kernel
theorem dX7_read_25 : decode cX7_read 25 = .ok (.aload_n 0, 1) := by decide +kernel
theorem dX7_read_26 : decode cX7_read 26 = .ok (.aload_n 1, 1) := by decide +kernel
theorem dX7_read_27 : decode cX7_read 27 = .ok (.invokestatic 28, 3) := by decide +kernel
theorem dX7_read_30 : decode cX7_read 30 = .ok (.iinc 2 1, 3) := by decide +kernel
theorem dX7_read_33 : decode cX7_read 33 = .ok (.goto (-22), 3) := by decide +kernel
theorem dX7_read_36 : decode cX7_read 36 = .ok (.aload_n 0, 1) := by decide +kernel
theorem dX7_read_37 : decode cX7_read 37 = .ok (.ldc 20, 2) := by decide +kernel
theorem dX7_read_39 : decode cX7_read 39 = .ok (.invokevirtual 22, 3) := by decide +kernel
theorem dX7_read_42 : decode cX7_read 42 = .ok (.ifCond .eq 8, 3) := by decide +kernel
theorem dX7_read_45 : decode cX7_read 45 = .ok (.aload_n 0, 1) := by decide +kernel
theorem dX7_read_46 : decode cX7_read 46 = .ok (.iconst 5, 1) := by decide +kernel
theorem dX7_read_47 : decode cX7_read 47 = .ok (.invokevirtual 31, 3) := by decide +kernel
theorem dX7_read_50 : decode cX7_read 50 = .ok (.iconst 0, 1) := by decide +kernel
theorem dX7_read_51 : decode cX7_read 51 = .ok (.istore_n 2, 1) := by decide +kernel
theorem dX7_read_52 : decode cX7_read 52 = .ok (.iload_n 2, 1) := by decide +kernel
theorem dX7_read_53 : decode cX7_read 53 = .ok (.bipush 24, 2) := by decide +kernel
theorem dX7_read_55 : decode cX7_read 55 = .ok (.if_icmp .ge 23, 3) := by decide +kernel
theorem dX7_read_58 : decode cX7_read 58 = .ok (.aload_n 0, 1) := by decide +kernel
theorem dX7_read_59 : decode cX7_read 59 = .ok (.ldc 35, 2) := by decide +kernel
theorem dX7_read_61 : decode cX7_read 61 = .ok (.invokevirtual 22, 3) := by decide +kernel
theorem dX7_read_64 : decode cX7_read 64 = .ok (.ifCond .eq 14, 3) := by decide +kernel
theorem dX7_read_67 : decode cX7_read 67 = .ok (.aload_n 0, 1) := by decide +kernel
theorem dX7_read_68 : decode cX7_read 68 = .ok (.aload_n 1, 1) := by decide +kernel
theorem dX7_read_69 : decode cX7_read 69 = .ok (.invokestatic 37, 3) := by decide +kernel
theorem dX7_read_72 : decode cX7_read 72 = .ok (.iinc 2 1, 3) := by decide +kernel
theorem dX7_read_75 : decode cX7_read 75 = .ok (.goto (-23), 3) := by decide +kernel
theorem dX7_read_78 : decode cX7_read 78 = .ok (.aload_n 0, 1) := by decide +kernel
theorem dX7_read_79 : decode cX7_read 79 = .ok (.ldc 35, 2) := by decide +kernel
theorem dX7_read_81 : decode cX7_read 81 = .ok (.invokevirtual 22, 3) := by decide +kernel
theorem dX7_read_84 : decode cX7_read 84 = .ok (.ifCond .eq 8, 3) := by decide +kernel
theorem dX7_read_87 : decode cX7_read 87 = .ok (.aload_n 0, 1) := by decide +kernel
theorem dX7_read_88 : decode cX7_read 88 = .ok (.iconst 5, 1) := by decide +kernel
theorem dX7_read_89 : decode cX7_read 89 = .ok (.invokevirtual 31, 3) := by decide +kernel
theorem dX7_read_92 : decode cX7_read 92 = .ok (.iconst 0, 1) := by decide +kernel
theorem dX7_read_93 : decode cX7_read 93 = .ok (.istore_n 2, 1) := by decide +kernel
theorem dX7_read_94 : decode cX7_read 94 = .ok (.iload_n 2, 1) := by decide +kernel
theorem dX7_read_95 : decode cX7_read 95 = .ok (.bipush 24, 2) := by decide +kernel
theorem dX7_read_97 : decode cX7_read 97 = .ok (.if_icmp .gt 23, 3) := by decide +kernel
theorem dX7_read_100 : decode cX7_read 100 = .ok (.aload_n 0, 1) := by decide +kernel
theorem dX7_read_101 : decode cX7_read 101 = .ok (.ldc 40, 2) := by decide +kernel
theorem dX7_read_103 : decode cX7_read 103 = .ok (.invokevirtual 22, 3) := by decide +kernel
theorem dX7_read_106 : decode cX7_read 106 = .ok (.ifCond .eq 14, 3) := by decide +kernel
theorem dX7_read_109 : decode cX7_read 109 = .ok (.aload_n 0, 1) := by decide +kernel
theorem dX7_read_110 : decode cX7_read 110 = .ok (.aload_n 1, 1) := by decide +kernel
theorem dX7_read_111 : decode cX7_read 111 = .ok (.invokestatic 42, 3) := by decide +kernel
theorem dX7_read_114 : decode cX7_read 114 = .ok (.iinc 2 1, 3) := by decide +kernel
theorem dX7_read_117 : decode cX7_read 117 = .ok (.goto (-23), 3) := by decide +kernel
theorem dX7_read_120 : decode cX7_read 120 = .ok (.aload_n 0, 1) := by decide +kernel
theorem dX7_read_121 : decode cX7_read 121 = .ok (.invokevirtual 45, 3) := by decide +kernel
theorem dX7_read_124 : decode cX7_read 124 = .ok (.return_, 1) := by decide +kernel
theorem dX7_readMarket_0 : decode cX7_readMarket 0 = .ok (.aload_n 0, 1) := by decide +kernel
theorem dX7_readMarket_1 : decode cX7_readMarket 1 = .ok (.ldc 48, 2) := by decide +kernel
theorem dX7_readMarket_3 : decode cX7_readMarket 3 = .ok (.invokevirtual 50, 3) := by decide +kernel
theorem dX7_readMarket_6 : decode cX7_readMarket 6 = .ok (.aload_n 1, 1) := by decide +kernel
theorem dX7_readMarket_7 : decode cX7_readMarket 7 = .ok (.aload_n 0, 1) := by decide +kernel
theorem dX7_readMarket_8 : decode cX7_readMarket 8 = .ok (.iconst 0, 1) := by decide +kernel
theorem dX7_readMarket_9 : decode cX7_readMarket 9 = .ok (.bipush 20, 2) := by decide +kernel
theorem dX7_readMarket_11 : decode cX7_readMarket 11 = .ok (.invokevirtual 54, 3) := by decide +kernel
theorem dX7_readMarket_14 : decode cX7_readMarket 14 = .ok (.putfield 58, 3) := by decide +kernel
theorem dX7_readMarket_17 : decode cX7_readMarket 17 = .ok (.aload_n 1, 1) := by decide +kernel
theorem dX7_readMarket_18 : decode cX7_readMarket 18 = .ok (.aload_n 0, 1) := by decide +kernel
theorem dX7_readMarket_19 : decode cX7_readMarket 19 = .ok (.iconst 0, 1) := by decide +kernel
theorem dX7_readMarket_20 : decode cX7_readMarket 20 = .ok (.bipush 99, 2) := by decide +kernel
theorem dX7_readMarket_22 : decode cX7_readMarket 22 = .ok (.invokevirtual 54, 3) := by decide +kernel
theorem dX7_readMarket_25 : decode cX7_readMarket 25 = .ok (.putfield 62, 3) := by decide +kernel
theorem dX7_readMarket_28 : decode cX7_readMarket 28 = .ok (.aload_n 1, 1) := by decide +kernel
theorem dX7_readMarket_29 : decode cX7_readMarket 29 = .ok (.aload_n 0, 1) := by decide +kernel
theorem dX7_readMarket_30 : decode cX7_readMarket 30 = .ok (.iconst 0, 1) := by decide +kernel
theorem dX7_readMarket_31 : decode cX7_readMarket 31 = .ok (.bipush 99, 2) := by decide +kernel
theorem dX7_readMarket_33 : decode cX7_readMarket 33 = .ok (.invokevirtual 54, 3) := by decide +kernel
theorem dX7_readMarket_36 : decode cX7_readMarket 36 = .ok (.putfield 65, 3) := by decide +kernel
theorem dX7_readMarket_39 : decode cX7_readMarket 39 = .ok (.aload_n 1, 1) := by decide +kernel
theorem dX7_readMarket_40 : decode cX7_readMarket 40 = .ok (.aload_n 0, 1) := by decide +kernel
theorem dX7_readMarket_41 : decode cX7_readMarket 41 = .ok (.iconst 1, 1) := by decide +kernel
theorem dX7_readMarket_42 : decode cX7_readMarket 42 = .ok (.sipush 999, 3) := by decide +kernel
theorem dX7_readMarket_45 : decode cX7_readMarket 45 = .ok (.invokevirtual 54, 3) := by decide +kernel
theorem dX7_readMarket_48 : decode cX7_readMarket 48 = .ok (.putfield 68, 3) := by decide +kernel
theorem dX7_readMarket_51 : decode cX7_readMarket 51 = .ok (.aload_n 1, 1) := by decide +kernel
theorem dX7_readMarket_52 : decode cX7_readMarket 52 = .ok (.aload_n 0, 1) := by decide +kernel
theorem dX7_readMarket_53 : decode cX7_readMarket 53 = .ok (.iconst 0, 1) := by decide +kernel
theorem dX7_readMarket_54 : decode cX7_readMarket 54 = .ok (.sipush 999, 3) := by decide +kernel
theorem dX7_readMarket_57 : decode cX7_readMarket 57 = .ok (.invokevirtual 54, 3) := by decide +kernel
theorem dX7_readMarket_60 : decode cX7_readMarket 60 = .ok (.putfield 71, 3) := by decide +kernel
theorem dX7_readMarket_63 : decode cX7_readMarket 63 = .ok (.aload_n 1, 1) := by decide +kernel
theorem dX7_readMarket_64 : decode cX7_readMarket 64 = .ok (.aload_n 0, 1) := by decide +kernel
theorem dX7_readMarket_65 : decode cX7_readMarket 65 = .ok (.iconst 0, 1) := by decide +kernel
theorem dX7_readMarket_66 : decode cX7_readMarket 66 = .ok (.ldc 74, 2) := by decide +kernel
theorem dX7_readMarket_68 : decode cX7_readMarket 68 = .ok (.invokevirtual 54, 3) := by decide +kernel
theorem dX7_readMarket_71 : decode cX7_readMarket 71 = .ok (.putfield 75, 3) := by decide +kernel
theorem dX7_readMarket_74 : decode cX7_readMarket 74 = .ok (.aload_n 1, 1) := by decide +kernel
theorem dX7_readMarket_75 : decode cX7_readMarket 75 = .ok (.aload_n 1, 1) := by decide +kernel
theorem dX7_readMarket_76 : decode cX7_readMarket 76 = .ok (.getfield 75, 3) := by decide +kernel
theorem dX7_readMarket_79 : decode cX7_readMarket 79 = .ok (.putfield 78, 3) := by decide +kernel
theorem dX7_readMarket_82 : decode cX7_readMarket 82 = .ok (.aload_n 0, 1) := by decide +kernel
theorem dX7_readMarket_83 : decode cX7_readMarket 83 = .ok (.bipush 59, 2) := by decide +kernel
theorem dX7_readMarket_85 : decode cX7_readMarket 85 = .ok (.invokevirtual 81, 3) := by decide +kernel
theorem dX7_readMarket_88 : decode cX7_readMarket 88 = .ok (.return_, 1) := by decide +kernel
theorem dX7_readBoard_0 : decode cX7_readBoard 0 = .ok (.aload_n 0, 1) := by decide +kernel
theorem dX7_readBoard_1 : decode cX7_readBoard 1 = .ok (.invokevirtual 85, 3) := by decide +kernel
theorem dX7_readBoard_4 : decode cX7_readBoard 4 = .ok (.aload_n 0, 1) := by decide +kernel
theorem dX7_readBoard_5 : decode cX7_readBoard 5 = .ok (.iconst 1, 1) := by decide +kernel
theorem dX7_readBoard_6 : decode cX7_readBoard 6 = .ok (.bipush 6, 2) := by decide +kernel
theorem dX7_readBoard_8 : decode cX7_readBoard 8 = .ok (.invokevirtual 54, 3) := by decide +kernel
theorem dX7_readBoard_11 : decode cX7_readBoard 11 = .ok (.istore_n 2, 1) := by decide +kernel
theorem dX7_readBoard_12 : decode cX7_readBoard 12 = .ok (.aload_n 0, 1) := by decide +kernel
theorem dX7_readBoard_13 : decode cX7_readBoard 13 = .ok (.iconst 1, 1) := by decide +kernel
theorem dX7_readBoard_14 : decode cX7_readBoard 14 = .ok (.bipush 99, 2) := by decide +kernel
theorem dX7_readBoard_16 : decode cX7_readBoard 16 = .ok (.invokevirtual 54, 3) := by decide +kernel
theorem dX7_readBoard_19 : decode cX7_readBoard 19 = .ok (.istore_n 3, 1) := by decide +kernel
theorem dX7_readBoard_20 : decode cX7_readBoard 20 = .ok (.aload_n 0, 1) := by decide +kernel
theorem dX7_readBoard_21 : decode cX7_readBoard 21 = .ok (.iconst 0, 1) := by decide +kernel
theorem dX7_readBoard_22 : decode cX7_readBoard 22 = .ok (.sipush 999, 3) := by decide +kernel
theorem dX7_readBoard_25 : decode cX7_readBoard 25 = .ok (.invokevirtual 54, 3) := by decide +kernel
theorem dX7_readBoard_28 : decode cX7_readBoard 28 = .ok (.istore 4, 2) := by decide +kernel
theorem dX7_readBoard_30 : decode cX7_readBoard 30 = .ok (.aload_n 0, 1) := by decide +kernel
theorem dX7_readBoard_31 : decode cX7_readBoard 31 = .ok (.bipush 59, 2) := by decide +kernel
theorem dX7_readBoard_33 : decode cX7_readBoard 33 = .ok (.invokevirtual 81, 3) := by decide +kernel
theorem dX7_readBoard_36 : decode cX7_readBoard 36 = .ok (.aload_n 0, 1) := by decide +kernel
theorem dX7_readBoard_37 : decode cX7_readBoard 37 = .ok (.invokevirtual 88, 3) := by decide +kernel
theorem dX7_readBoard_40 : decode cX7_readBoard 40 = .ok (.ifCond .ne 11, 3) := by decide +kernel
theorem dX7_readBoard_43 : decode cX7_readBoard 43 = .ok (.aload_n 1, 1) := by decide +kernel
theorem dX7_readBoard_44 : decode cX7_readBoard 44 = .ok (.iload_n 2, 1) := by decide +kernel
theorem dX7_readBoard_45 : decode cX7_readBoard 45 = .ok (.iload_n 3, 1) := by decide +kernel
theorem dX7_readBoard_46 : decode cX7_readBoard 46 = .ok (.iload 4, 2) := by decide +kernel
theorem dX7_readBoard_48 : decode cX7_readBoard 48 = .ok (.invokevirtual 92, 3) := by decide +kernel
theorem dX7_readBoard_51 : decode cX7_readBoard 51 = .ok (.return_, 1) := by decide +kernel
theorem dX7_readTrader_0 : decode cX7_readTrader 0 = .ok (.aload_n 0, 1) := by decide +kernel
theorem dX7_readTrader_1 : decode cX7_readTrader 1 = .ok (.invokevirtual 85, 3) := by decide +kernel
theorem dX7_readTrader_4 : decode cX7_readTrader 4 = .ok (.aload_n 0, 1) := by decide +kernel
theorem dX7_readTrader_5 : decode cX7_readTrader 5 = .ok (.invokevirtual 96, 3) := by decide +kernel
theorem dX7_readTrader_8 : decode cX7_readTrader 8 = .ok (.lstore_n 2, 1) := by decide +kernel
theorem dX7_readTrader_9 : decode cX7_readTrader 9 = .ok (.aload_n 1, 1) := by decide +kernel
theorem dX7_readTrader_10 : decode cX7_readTrader 10 = .ok (.lload_n 2, 1) := by decide +kernel
theorem dX7_readTrader_11 : decode cX7_readTrader 11 = .ok (.invokevirtual 100, 3) := by decide +kernel
theorem dX7_readTrader_14 : decode cX7_readTrader 14 = .ok (.ifnull 8, 3) := by decide +kernel
theorem dX7_readTrader_17 : decode cX7_readTrader 17 = .ok (.aload_n 0, 1) := by decide +kernel
theorem dX7_readTrader_18 : decode cX7_readTrader 18 = .ok (.iconst 3, 1) := by decide +kernel
theorem dX7_readTrader_19 : decode cX7_readTrader 19 = .ok (.invokevirtual 104, 3) := by decide +kernel
theorem dX7_readTrader_22 : decode cX7_readTrader 22 = .ok (.aload_n 0, 1) := by decide +kernel
theorem dX7_readTrader_23 : decode cX7_readTrader 23 = .ok (.iconst 1, 1) := by decide +kernel
theorem dX7_readTrader_24 : decode cX7_readTrader 24 = .ok (.bipush 99, 2) := by decide +kernel
theorem dX7_readTrader_26 : decode cX7_readTrader 26 = .ok (.invokevirtual 54, 3) := by decide +kernel
theorem dX7_readTrader_29 : decode cX7_readTrader 29 = .ok (.istore 4, 2) := by decide +kernel
theorem dX7_readTrader_31 : decode cX7_readTrader 31 = .ok (.aload_n 0, 1) := by decide +kernel
theorem dX7_readTrader_32 : decode cX7_readTrader 32 = .ok (.iconst 0, 1) := by decide +kernel
theorem dX7_readTrader_33 : decode cX7_readTrader 33 = .ok (.sipush 9999, 3) := by decide +kernel
theorem dX7_readTrader_36 : decode cX7_readTrader 36 = .ok (.invokevirtual 54, 3) := by decide +kernel
theorem dX7_readTrader_39 : decode cX7_readTrader 39 = .ok (.istore 5, 2) := by decide +kernel
theorem dX7_readTrader_41 : decode cX7_readTrader 41 = .ok (.aload_n 0, 1) := by decide +kernel
theorem dX7_readTrader_42 : decode cX7_readTrader 42 = .ok (.iconst 0, 1) := by decide +kernel
theorem dX7_readTrader_43 : decode cX7_readTrader 43 = .ok (.aload_n 1, 1) := by decide +kernel
theorem dX7_readTrader_44 : decode cX7_readTrader 44 = .ok (.getfield 68, 3) := by decide +kernel
theorem dX7_readTrader_47 : decode cX7_readTrader 47 = .ok (.invokevirtual 54, 3) := by decide +kernel
theorem dX7_readTrader_50 : decode cX7_readTrader 50 = .ok (.istore 6, 2) := by decide +kernel
theorem dX7_readTrader_52 : decode cX7_readTrader 52 = .ok (.aload_n 0, 1) := by decide +kernel
theorem dX7_readTrader_53 : decode cX7_readTrader 53 = .ok (.bipush 59, 2) := by decide +kernel
theorem dX7_readTrader_55 : decode cX7_readTrader 55 = .ok (.invokevirtual 81, 3) := by decide +kernel
theorem dX7_readTrader_58 : decode cX7_readTrader 58 = .ok (.aload_n 0, 1) := by decide +kernel
theorem dX7_readTrader_59 : decode cX7_readTrader 59 = .ok (.invokevirtual 88, 3) := by decide +kernel
theorem dX7_readTrader_62 : decode cX7_readTrader 62 = .ok (.ifCond .ne 15, 3) := by decide +kernel
theorem dX7_readTrader_65 : decode cX7_readTrader 65 = .ok (.aload_n 1, 1) := by decide +kernel
theorem dX7_readTrader_66 : decode cX7_readTrader 66 = .ok (.lload_n 2, 1) := by decide +kernel
theorem dX7_readTrader_67 : decode cX7_readTrader 67 = .ok (.iload 4, 2) := by decide +kernel
theorem dX7_readTrader_69 : decode cX7_readTrader 69 = .ok (.iload 5, 2) := by decide +kernel
theorem dX7_readTrader_71 : decode cX7_readTrader 71 = .ok (.iload 6, 2) := by decide +kernel
theorem dX7_readTrader_73 : decode cX7_readTrader 73 = .ok (.invokevirtual 107, 3) := by decide +kernel
theorem dX7_readTrader_76 : decode cX7_readTrader 76 = .ok (.pop, 1) := by decide +kernel
theorem dX7_readTrader_77 : decode cX7_readTrader 77 = .ok (.return_, 1) := by decide +kernel
theorem dX7_readSeat_0 : decode cX7_readSeat 0 = .ok (.aload_n 0, 1) := by decide +kernel
theorem dX7_readSeat_1 : decode cX7_readSeat 1 = .ok (.invokevirtual 85, 3) := by decide +kernel
theorem dX7_readSeat_4 : decode cX7_readSeat 4 = .ok (.aload_n 1, 1) := by decide +kernel
theorem dX7_readSeat_5 : decode cX7_readSeat 5 = .ok (.aload_n 0, 1) := by decide +kernel
theorem dX7_readSeat_6 : decode cX7_readSeat 6 = .ok (.invokevirtual 96, 3) := by decide +kernel
theorem dX7_readSeat_9 : decode cX7_readSeat 9 = .ok (.invokevirtual 100, 3) := by decide +kernel
theorem dX7_readSeat_12 : decode cX7_readSeat 12 = .ok (.astore_n 2, 1) := by decide +kernel
theorem dX7_readSeat_13 : decode cX7_readSeat 13 = .ok (.aload_n 2, 1) := by decide +kernel
theorem dX7_readSeat_14 : decode cX7_readSeat 14 = .ok (.ifnonnull 11, 3) := by decide +kernel
theorem dX7_readSeat_17 : decode cX7_readSeat 17 = .ok (.aload_n 0, 1) := by decide +kernel
theorem dX7_readSeat_18 : decode cX7_readSeat 18 = .ok (.iconst 4, 1) := by decide +kernel
theorem dX7_readSeat_19 : decode cX7_readSeat 19 = .ok (.invokevirtual 104, 3) := by decide +kernel
theorem dX7_readSeat_22 : decode cX7_readSeat 22 = .ok (.goto 15, 3) := by decide +kernel
theorem dX7_readSeat_25 : decode cX7_readSeat 25 = .ok (.aload_n 2, 1) := by decide +kernel
theorem dX7_readSeat_26 : decode cX7_readSeat 26 = .ok (.invokevirtual 111, 3) := by decide +kernel
theorem dX7_readSeat_29 : decode cX7_readSeat 29 = .ok (.ifCond .eq 8, 3) := by decide +kernel
theorem dX7_readSeat_32 : decode cX7_readSeat 32 = .ok (.aload_n 0, 1) := by decide +kernel
theorem dX7_readSeat_33 : decode cX7_readSeat 33 = .ok (.iconst 3, 1) := by decide +kernel
theorem dX7_readSeat_34 : decode cX7_readSeat 34 = .ok (.invokevirtual 104, 3) := by decide +kernel
theorem dX7_readSeat_37 : decode cX7_readSeat 37 = .ok (.aload_n 1, 1) := by decide +kernel
theorem dX7_readSeat_38 : decode cX7_readSeat 38 = .ok (.aload_n 0, 1) := by decide +kernel
theorem dX7_readSeat_39 : decode cX7_readSeat 39 = .ok (.iconst 0, 1) := by decide +kernel
theorem dX7_readSeat_40 : decode cX7_readSeat 40 = .ok (.aload_n 1, 1) := by decide +kernel
theorem dX7_readSeat_41 : decode cX7_readSeat 41 = .ok (.getfield 116, 3) := by decide +kernel
theorem dX7_readSeat_44 : decode cX7_readSeat 44 = .ok (.iconst 1, 1) := by decide +kernel
theorem dX7_readSeat_45 : decode cX7_readSeat 45 = .ok (.isub, 1) := by decide +kernel
theorem dX7_readSeat_46 : decode cX7_readSeat 46 = .ok (.invokevirtual 54, 3) := by decide +kernel
theorem dX7_readSeat_49 : decode cX7_readSeat 49 = .ok (.invokevirtual 119, 3) := by decide +kernel
theorem dX7_readSeat_52 : decode cX7_readSeat 52 = .ok (.astore_n 3, 1) := by decide +kernel
theorem dX7_readSeat_53 : decode cX7_readSeat 53 = .ok (.aload_n 0, 1) := by decide +kernel
theorem dX7_readSeat_54 : decode cX7_readSeat 54 = .ok (.invokevirtual 123, 3) := by decide +kernel
theorem dX7_readSeat_57 : decode cX7_readSeat 57 = .ok (.istore 4, 2) := by decide +kernel
theorem dX7_readSeat_59 : decode cX7_readSeat 59 = .ok (.aload_n 0, 1) := by decide +kernel
theorem dX7_readSeat_60 : decode cX7_readSeat 60 = .ok (.iconst 1, 1) := by decide +kernel
theorem dX7_readSeat_61 : decode cX7_readSeat 61 = .ok (.aload_n 3, 1) := by decide +kernel
theorem dX7_readSeat_62 : decode cX7_readSeat 62 = .ok (.ifnonnull 7, 3) := by decide +kernel
theorem dX7_readSeat_65 : decode cX7_readSeat 65 = .ok (.iconst 0, 1) := by decide +kernel
theorem dX7_readSeat_66 : decode cX7_readSeat 66 = .ok (.goto 7, 3) := by decide +kernel
theorem dX7_readSeat_69 : decode cX7_readSeat 69 = .ok (.aload_n 3, 1) := by decide +kernel
theorem dX7_readSeat_70 : decode cX7_readSeat 70 = .ok (.getfield 127, 3) := by decide +kernel
theorem dX7_readSeat_73 : decode cX7_readSeat 73 = .ok (.invokevirtual 54, 3) := by decide +kernel
theorem dX7_readSeat_76 : decode cX7_readSeat 76 = .ok (.istore 5, 2) := by decide +kernel
theorem dX7_readSeat_78 : decode cX7_readSeat 78 = .ok (.aload_n 3, 1) := by decide +kernel
theorem dX7_readSeat_79 : decode cX7_readSeat 79 = .ok (.ifnull 20, 3) := by decide +kernel
theorem dX7_readSeat_82 : decode cX7_readSeat 82 = .ok (.aload_n 3, 1) := by decide +kernel
theorem dX7_readSeat_83 : decode cX7_readSeat 83 = .ok (.iload 4, 2) := by decide +kernel
theorem dX7_readSeat_85 : decode cX7_readSeat 85 = .ok (.iload 5, 2) := by decide +kernel
theorem dX7_readSeat_87 : decode cX7_readSeat 87 = .ok (.imul, 1) := by decide +kernel
theorem dX7_readSeat_88 : decode cX7_readSeat 88 = .ok (.invokevirtual 132, 3) := by decide +kernel
theorem dX7_readSeat_91 : decode cX7_readSeat 91 = .ok (.ifCond .ne 8, 3) := by decide +kernel
theorem dX7_readSeat_94 : decode cX7_readSeat 94 = .ok (.aload_n 0, 1) := by decide +kernel
theorem dX7_readSeat_95 : decode cX7_readSeat 95 = .ok (.iconst 3, 1) := by decide +kernel
theorem dX7_readSeat_96 : decode cX7_readSeat 96 = .ok (.invokevirtual 104, 3) := by decide +kernel
theorem dX7_readSeat_99 : decode cX7_readSeat 99 = .ok (.aload_n 0, 1) := by decide +kernel
theorem dX7_readSeat_100 : decode cX7_readSeat 100 = .ok (.bipush 59, 2) := by decide +kernel
theorem dX7_readSeat_102 : decode cX7_readSeat 102 = .ok (.invokevirtual 81, 3) := by decide +kernel
theorem dX7_readSeat_105 : decode cX7_readSeat 105 = .ok (.aload_n 0, 1) := by decide +kernel
theorem dX7_readSeat_106 : decode cX7_readSeat 106 = .ok (.invokevirtual 88, 3) := by decide +kernel
theorem dX7_readSeat_109 : decode cX7_readSeat 109 = .ok (.ifCond .ne 22, 3) := by decide +kernel
theorem dX7_readSeat_112 : decode cX7_readSeat 112 = .ok (.aload_n 2, 1) := by decide +kernel
theorem dX7_readSeat_113 : decode cX7_readSeat 113 = .ok (.ifnull 18, 3) := by decide +kernel
theorem dX7_readSeat_116 : decode cX7_readSeat 116 = .ok (.aload_n 3, 1) := by decide +kernel
theorem dX7_readSeat_117 : decode cX7_readSeat 117 = .ok (.ifnull 14, 3) := by decide +kernel
theorem dX7_readSeat_120 : decode cX7_readSeat 120 = .ok (.aload_n 1, 1) := by decide +kernel
theorem dX7_readSeat_121 : decode cX7_readSeat 121 = .ok (.aload_n 2, 1) := by decide +kernel
theorem dX7_readSeat_122 : decode cX7_readSeat 122 = .ok (.aload_n 3, 1) := by decide +kernel
theorem dX7_readSeat_123 : decode cX7_readSeat 123 = .ok (.iload 4, 2) := by decide +kernel
theorem dX7_readSeat_125 : decode cX7_readSeat 125 = .ok (.iload 5, 2) := by decide +kernel
theorem dX7_readSeat_127 : decode cX7_readSeat 127 = .ok (.imul, 1) := by decide +kernel
theorem dX7_readSeat_128 : decode cX7_readSeat 128 = .ok (.invokevirtual 136, 3) := by decide +kernel
theorem dX7_readSeat_131 : decode cX7_readSeat 131 = .ok (.return_, 1) := by decide +kernel
theorem dX8_init_0 : decode cX8_init 0 = .ok (.aload_n 0, 1) := by decide +kernel
theorem dX8_init_1 : decode cX8_init 1 = .ok (.invokespecial 3, 3) := by decide +kernel
theorem dX8_init_4 : decode cX8_init 4 = .ok (.aload_n 0, 1) := by decide +kernel
theorem dX8_init_5 : decode cX8_init 5 = .ok (.sipush 800, 3) := by decide +kernel
theorem dX8_init_8 : decode cX8_init 8 = .ok (.newarray .int, 2) := by decide +kernel
theorem dX8_init_10 : decode cX8_init 10 = .ok (.putfield 9, 3) := by decide +kernel
theorem dX8_init_13 : decode cX8_init 13 = .ok (.return_, 1) := by decide +kernel
theorem dX8_byteAt_0 : decode cX8_byteAt 0 = .ok (.iload_n 1, 1) := by decide +kernel
theorem dX8_byteAt_1 : decode cX8_byteAt 1 = .ok (.ifCond .lt 29, 3) := by decide +kernel
theorem dX8_byteAt_4 : decode cX8_byteAt 4 = .ok (.iload_n 1, 1) := by decide +kernel
theorem dX8_byteAt_5 : decode cX8_byteAt 5 = .ok (.aload_n 0, 1) := by decide +kernel
theorem dX8_byteAt_6 : decode cX8_byteAt 6 = .ok (.getfield 15, 3) := by decide +kernel
theorem dX8_byteAt_9 : decode cX8_byteAt 9 = .ok (.if_icmp .ge 21, 3) := by decide +kernel
theorem dX8_byteAt_12 : decode cX8_byteAt 12 = .ok (.iload_n 1, 1) := by decide +kernel
theorem dX8_byteAt_13 : decode cX8_byteAt 13 = .ok (.aload_n 0, 1) := by decide +kernel
theorem dX8_byteAt_14 : decode cX8_byteAt 14 = .ok (.getfield 9, 3) := by decide +kernel
theorem dX8_byteAt_17 : decode cX8_byteAt 17 = .ok (.arraylength, 1) := by decide +kernel
theorem dX8_byteAt_18 : decode cX8_byteAt 18 = .ok (.if_icmp .ge 12, 3) := by decide +kernel
theorem dX8_byteAt_21 : decode cX8_byteAt 21 = .ok (.aload_n 0, 1) := by decide +kernel
theorem dX8_byteAt_22 : decode cX8_byteAt 22 = .ok (.getfield 9, 3) := by decide +kernel
theorem dX8_byteAt_25 : decode cX8_byteAt 25 = .ok (.iload_n 1, 1) := by decide +kernel
theorem dX8_byteAt_26 : decode cX8_byteAt 26 = .ok (.iaload, 1) := by decide +kernel
theorem dX8_byteAt_27 : decode cX8_byteAt 27 = .ok (.goto 4, 3) := by decide +kernel
theorem dX8_byteAt_30 : decode cX8_byteAt 30 = .ok (.iconst (-1), 1) := by decide +kernel
theorem dX8_byteAt_31 : decode cX8_byteAt 31 = .ok (.ireturn, 1) := by decide +kernel
theorem dX8_add_0 : decode cX8_add 0 = .ok (.aload_n 0, 1) := by decide +kernel
theorem dX8_add_1 : decode cX8_add 1 = .ok (.getfield 15, 3) := by decide +kernel
theorem dX8_add_4 : decode cX8_add 4 = .ok (.ifCond .lt 35, 3) := by decide +kernel
theorem dX8_add_7 : decode cX8_add 7 = .ok (.aload_n 0, 1) := by decide +kernel
theorem dX8_add_8 : decode cX8_add 8 = .ok (.getfield 15, 3) := by decide +kernel
theorem dX8_add_11 : decode cX8_add 11 = .ok (.aload_n 0, 1) := by decide +kernel
theorem dX8_add_12 : decode cX8_add 12 = .ok (.getfield 9, 3) := by decide +kernel
theorem dX8_add_15 : decode cX8_add 15 = .ok (.arraylength, 1) := by decide +kernel
theorem dX8_add_16 : decode cX8_add 16 = .ok (.if_icmp .ge 23, 3) := by decide +kernel
theorem dX8_add_19 : decode cX8_add 19 = .ok (.aload_n 0, 1) := by decide +kernel
theorem dX8_add_20 : decode cX8_add 20 = .ok (.getfield 9, 3) := by decide +kernel
theorem dX8_add_23 : decode cX8_add 23 = .ok (.aload_n 0, 1) := by decide +kernel
theorem dX8_add_24 : decode cX8_add 24 = .ok (.getfield 15, 3) := by decide +kernel
theorem dX8_add_27 : decode cX8_add 27 = .ok (.iload_n 1, 1) := by decide +kernel
theorem dX8_add_28 : decode cX8_add 28 = .ok (.iastore, 1) := by decide +kernel
theorem dX8_add_29 : decode cX8_add 29 = .ok (.aload_n 0, 1) := by decide +kernel
theorem dX8_add_30 : decode cX8_add 30 = .ok (.dup, 1) := by decide +kernel
theorem dX8_add_31 : decode cX8_add 31 = .ok (.getfield 15, 3) := by decide +kernel
theorem dX8_add_34 : decode cX8_add 34 = .ok (.iconst 1, 1) := by decide +kernel
theorem dX8_add_35 : decode cX8_add 35 = .ok (.iadd, 1) := by decide +kernel
theorem dX8_add_36 : decode cX8_add 36 = .ok (.putfield 15, 3) := by decide +kernel
theorem dX8_add_39 : decode cX8_add 39 = .ok (.return_, 1) := by decide +kernel
theorem dX8_addBytesOf_0 : decode cX8_addBytesOf 0 = .ok (.bipush 24, 2) := by decide +kernel
theorem dX8_addBytesOf_2 : decode cX8_addBytesOf 2 = .ok (.istore_n 2, 1) := by decide +kernel
theorem dX8_addBytesOf_3 : decode cX8_addBytesOf 3 = .ok (.iload_n 2, 1) := by decide +kernel
theorem dX8_addBytesOf_4 : decode cX8_addBytesOf 4 = .ok (.ifCond .lt 26, 3) := by decide +kernel
theorem dX8_addBytesOf_7 : decode cX8_addBytesOf 7 = .ok (.iload_n 1, 1) := by decide +kernel
theorem dX8_addBytesOf_8 : decode cX8_addBytesOf 8 = .ok (.iload_n 2, 1) := by decide +kernel
theorem dX8_addBytesOf_9 : decode cX8_addBytesOf 9 = .ok (.iushr, 1) := by decide +kernel
theorem dX8_addBytesOf_10 : decode cX8_addBytesOf 10 = .ok (.sipush 255, 3) := by decide +kernel
theorem dX8_addBytesOf_13 : decode cX8_addBytesOf 13 = .ok (.iand, 1) := by decide +kernel
theorem dX8_addBytesOf_14 : decode cX8_addBytesOf 14 = .ok (.istore_n 3, 1) := by decide +kernel
theorem dX8_addBytesOf_15 : decode cX8_addBytesOf 15 = .ok (.iload_n 3, 1) := by decide +kernel
theorem dX8_addBytesOf_16 : decode cX8_addBytesOf 16 = .ok (.ifCond .eq 8, 3) := by decide +kernel
theorem dX8_addBytesOf_19 : decode cX8_addBytesOf 19 = .ok (.aload_n 0, 1) := by decide +kernel
theorem dX8_addBytesOf_20 : decode cX8_addBytesOf 20 = .ok (.iload_n 3, 1) := by decide +kernel
theorem dX8_addBytesOf_21 : decode cX8_addBytesOf 21 = .ok (.invokevirtual 19, 3) := by decide +kernel
theorem dX8_addBytesOf_24 : decode cX8_addBytesOf 24 = .ok (.iinc 2 (-8), 3) := by decide +kernel
theorem dX8_addBytesOf_27 : decode cX8_addBytesOf 27 = .ok (.goto (-24), 3) := by decide +kernel
theorem dX8_addBytesOf_30 : decode cX8_addBytesOf 30 = .ok (.return_, 1) := by decide +kernel
theorem dX8_addAll_0 : decode cX8_addAll 0 = .ok (.iconst 0, 1) := by decide +kernel
theorem dX8_addAll_1 : decode cX8_addAll 1 = .ok (.istore_n 2, 1) := by decide +kernel
theorem dX8_addAll_2 : decode cX8_addAll 2 = .ok (.iload_n 2, 1) := by decide +kernel
theorem dX8_addAll_3 : decode cX8_addAll 3 = .ok (.aload_n 1, 1) := by decide +kernel
theorem dX8_addAll_4 : decode cX8_addAll 4 = .ok (.invokevirtual 23, 3) := by decide +kernel
theorem dX8_addAll_7 : decode cX8_addAll 7 = .ok (.if_icmp .ge 18, 3) := by decide +kernel
theorem dX8_addAll_10 : decode cX8_addAll 10 = .ok (.aload_n 0, 1) := by decide +kernel
theorem dX8_addAll_11 : decode cX8_addAll 11 = .ok (.aload_n 1, 1) := by decide +kernel
theorem dX8_addAll_12 : decode cX8_addAll 12 = .ok (.iload_n 2, 1) := by decide +kernel
theorem dX8_addAll_13 : decode cX8_addAll 13 = .ok (.invokevirtual 28, 3) := by decide +kernel
theorem dX8_addAll_16 : decode cX8_addAll 16 = .ok (.invokevirtual 19, 3) := by decide +kernel
theorem dX8_addAll_19 : decode cX8_addAll 19 = .ok (.iinc 2 1, 3) := by decide +kernel
theorem dX8_addAll_22 : decode cX8_addAll 22 = .ok (.goto (-20), 3) := by decide +kernel
theorem dX8_addAll_25 : decode cX8_addAll 25 = .ok (.return_, 1) := by decide +kernel
theorem dX8_addName_0 : decode cX8_addName 0 = .ok (.iconst 0, 1) := by decide +kernel
theorem dX8_addName_1 : decode cX8_addName 1 = .ok (.istore_n 3, 1) := by decide +kernel
theorem dX8_addName_2 : decode cX8_addName 2 = .ok (.iload_n 3, 1) := by decide +kernel
theorem dX8_addName_3 : decode cX8_addName 3 = .ok (.bipush 6, 2) := by decide +kernel
theorem dX8_addName_5 : decode cX8_addName 5 = .ok (.if_icmp .ge 27, 3) := by decide +kernel
theorem dX8_addName_8 : decode cX8_addName 8 = .ok (.lload_n 1, 1) := by decide +kernel
theorem dX8_addName_9 : decode cX8_addName 9 = .ok (.iload_n 3, 1) := by decide +kernel
theorem dX8_addName_10 : decode cX8_addName 10 = .ok (.invokestatic 32, 3) := by decide +kernel
theorem dX8_addName_13 : decode cX8_addName 13 = .ok (.iconst (-1), 1) := by decide +kernel
theorem dX8_addName_14 : decode cX8_addName 14 = .ok (.if_icmp .eq 18, 3) := by decide +kernel
theorem dX8_addName_17 : decode cX8_addName 17 = .ok (.aload_n 0, 1) := by decide +kernel
theorem dX8_addName_18 : decode cX8_addName 18 = .ok (.lload_n 1, 1) := by decide +kernel
theorem dX8_addName_19 : decode cX8_addName 19 = .ok (.iload_n 3, 1) := by decide +kernel
theorem dX8_addName_20 : decode cX8_addName 20 = .ok (.invokestatic 32, 3) := by decide +kernel
theorem dX8_addName_23 : decode cX8_addName 23 = .ok (.invokevirtual 19, 3) := by decide +kernel
theorem dX8_addName_26 : decode cX8_addName 26 = .ok (.iinc 3 1, 3) := by decide +kernel
theorem dX8_addName_29 : decode cX8_addName 29 = .ok (.goto (-27), 3) := by decide +kernel
theorem dX8_addName_32 : decode cX8_addName 32 = .ok (.return_, 1) := by decide +kernel
theorem dX8_nameBetween_0 : decode cX8_nameBetween 0 = .ok (.iload_n 2, 1) := by decide +kernel
theorem dX8_nameBetween_1 : decode cX8_nameBetween 1 = .ok (.iload_n 1, 1) := by decide +kernel
theorem dX8_nameBetween_2 : decode cX8_nameBetween 2 = .ok (.isub, 1) := by decide +kernel
theorem dX8_nameBetween_3 : decode cX8_nameBetween 3 = .ok (.bipush 6, 2) := by decide +kernel
theorem dX8_nameBetween_5 : decode cX8_nameBetween 5 = .ok (.if_icmp .le 5, 3) := by decide +kernel
theorem dX8_nameBetween_8 : decode cX8_nameBetween 8 = .ok (.lconst 0, 1) := by decide +kernel
theorem dX8_nameBetween_9 : decode cX8_nameBetween 9 = .ok (.lreturn, 1) := by decide +kernel
theorem dX8_nameBetween_10 : decode cX8_nameBetween 10 = .ok (.lconst 0, 1) := by decide +kernel
theorem dX8_nameBetween_11 : decode cX8_nameBetween 11 = .ok (.lstore_n 3, 1) := by decide +kernel
theorem dX8_nameBetween_12 : decode cX8_nameBetween 12 = .ok (.iload_n 2, 1) := by decide +kernel
theorem dX8_nameBetween_13 : decode cX8_nameBetween 13 = .ok (.iconst 1, 1) := by decide +kernel
theorem dX8_nameBetween_14 : decode cX8_nameBetween 14 = .ok (.isub, 1) := by decide +kernel
theorem dX8_nameBetween_15 : decode cX8_nameBetween 15 = .ok (.istore 5, 2) := by decide +kernel
theorem dX8_nameBetween_17 : decode cX8_nameBetween 17 = .ok (.iload 5, 2) := by decide +kernel
theorem dX8_nameBetween_19 : decode cX8_nameBetween 19 = .ok (.iload_n 1, 1) := by decide +kernel
theorem dX8_nameBetween_20 : decode cX8_nameBetween 20 = .ok (.if_icmp .lt 36, 3) := by decide +kernel
theorem dX8_nameBetween_23 : decode cX8_nameBetween 23 = .ok (.aload_n 0, 1) := by decide +kernel
theorem dX8_nameBetween_24 : decode cX8_nameBetween 24 = .ok (.iload 5, 2) := by decide +kernel
theorem dX8_nameBetween_26 : decode cX8_nameBetween 26 = .ok (.invokevirtual 36, 3) := by decide +kernel
theorem dX8_nameBetween_29 : decode cX8_nameBetween 29 = .ok (.istore 6, 2) := by decide +kernel
theorem dX8_nameBetween_31 : decode cX8_nameBetween 31 = .ok (.iload 6, 2) := by decide +kernel
theorem dX8_nameBetween_33 : decode cX8_nameBetween 33 = .ok (.invokestatic 40, 3) := by decide +kernel
theorem dX8_nameBetween_36 : decode cX8_nameBetween 36 = .ok (.ifCond .ne 5, 3) := by decide +kernel
theorem dX8_nameBetween_39 : decode cX8_nameBetween 39 = .ok (.lconst 0, 1) := by decide +kernel
theorem dX8_nameBetween_40 : decode cX8_nameBetween 40 = .ok (.lreturn, 1) := by decide +kernel
theorem dX8_nameBetween_41 : decode cX8_nameBetween 41 = .ok (.lload_n 3, 1) := by decide +kernel
theorem dX8_nameBetween_42 : decode cX8_nameBetween 42 = .ok (.bipush 8, 2) := by decide +kernel
theorem dX8_nameBetween_44 : decode cX8_nameBetween 44 = .ok (.lshl, 1) := by decide +kernel
theorem dX8_nameBetween_45 : decode cX8_nameBetween 45 = .ok (.iload 6, 2) := by decide +kernel
theorem dX8_nameBetween_47 : decode cX8_nameBetween 47 = .ok (.i2l, 1) := by decide +kernel
theorem dX8_nameBetween_48 : decode cX8_nameBetween 48 = .ok (.lor, 1) := by decide +kernel
theorem dX8_nameBetween_49 : decode cX8_nameBetween 49 = .ok (.lstore_n 3, 1) := by decide +kernel
theorem dX8_nameBetween_50 : decode cX8_nameBetween 50 = .ok (.iinc 5 (-1), 3) := by decide +kernel
theorem dX8_nameBetween_53 : decode cX8_nameBetween 53 = .ok (.goto (-36), 3) := by decide +kernel
theorem dX8_nameBetween_56 : decode cX8_nameBetween 56 = .ok (.lload_n 3, 1) := by decide +kernel
theorem dX8_nameBetween_57 : decode cX8_nameBetween 57 = .ok (.lreturn, 1) := by decide +kernel
theorem dX9_init_0 : decode cX9_init 0 = .ok (.aload_n 0, 1) := by decide +kernel
theorem dX9_init_1 : decode cX9_init 1 = .ok (.invokespecial 3, 3) := by decide +kernel
theorem dX9_init_4 : decode cX9_init 4 = .ok (.aload_n 0, 1) := by decide +kernel
theorem dX9_init_5 : decode cX9_init 5 = .ok (.sipush 801, 3) := by decide +kernel
theorem dX9_init_8 : decode cX9_init 8 = .ok (.newarray .int, 2) := by decide +kernel
theorem dX9_init_10 : decode cX9_init 10 = .ok (.putfield 9, 3) := by decide +kernel
theorem dX9_init_13 : decode cX9_init 13 = .ok (.aload_n 0, 1) := by decide +kernel
theorem dX9_init_14 : decode cX9_init 14 = .ok (.sipush 801, 3) := by decide +kernel
theorem dX9_init_17 : decode cX9_init 17 = .ok (.newarray .int, 2) := by decide +kernel
theorem dX9_init_19 : decode cX9_init 19 = .ok (.putfield 15, 3) := by decide +kernel
theorem dX9_init_22 : decode cX9_init 22 = .ok (.aload_n 0, 1) := by decide +kernel
theorem dX9_init_23 : decode cX9_init 23 = .ok (.sipush 801, 3) := by decide +kernel
theorem dX9_init_26 : decode cX9_init 26 = .ok (.newarray .int, 2) := by decide +kernel
theorem dX9_init_28 : decode cX9_init 28 = .ok (.putfield 18, 3) := by decide +kernel
theorem dX9_init_31 : decode cX9_init 31 = .ok (.aload_n 0, 1) := by decide +kernel
theorem dX9_init_32 : decode cX9_init 32 = .ok (.iconst (-1), 1) := by decide +kernel
theorem dX9_init_33 : decode cX9_init 33 = .ok (.putfield 21, 3) := by decide +kernel
theorem dX9_init_36 : decode cX9_init 36 = .ok (.aload_n 0, 1) := by decide +kernel
theorem dX9_init_37 : decode cX9_init 37 = .ok (.aload_n 1, 1) := by decide +kernel
theorem dX9_init_38 : decode cX9_init 38 = .ok (.putfield 25, 3) := by decide +kernel
theorem dX9_init_41 : decode cX9_init 41 = .ok (.return_, 1) := by decide +kernel
theorem dX9_begin_0 : decode cX9_begin 0 = .ok (.aload_n 0, 1) := by decide +kernel
theorem dX9_begin_1 : decode cX9_begin 1 = .ok (.iconst 0, 1) := by decide +kernel
theorem dX9_begin_2 : decode cX9_begin 2 = .ok (.putfield 29, 3) := by decide +kernel
theorem dX9_begin_5 : decode cX9_begin 5 = .ok (.aload_n 0, 1) := by decide +kernel
theorem dX9_begin_6 : decode cX9_begin 6 = .ok (.iconst (-1), 1) := by decide +kernel
theorem dX9_begin_7 : decode cX9_begin 7 = .ok (.putfield 21, 3) := by decide +kernel
theorem dX9_begin_10 : decode cX9_begin 10 = .ok (.aload_n 0, 1) := by decide +kernel
theorem dX9_begin_11 : decode cX9_begin 11 = .ok (.iconst 0, 1) := by decide +kernel
theorem dX9_begin_12 : decode cX9_begin 12 = .ok (.putfield 32, 3) := by decide +kernel
theorem dX9_begin_15 : decode cX9_begin 15 = .ok (.aload_n 0, 1) := by decide +kernel
theorem dX9_begin_16 : decode cX9_begin 16 = .ok (.iconst 0, 1) := by decide +kernel
theorem dX9_begin_17 : decode cX9_begin 17 = .ok (.putfield 35, 3) := by decide +kernel
theorem dX9_begin_20 : decode cX9_begin 20 = .ok (.iconst 0, 1) := by decide +kernel
theorem dX9_begin_21 : decode cX9_begin 21 = .ok (.istore_n 1, 1) := by decide +kernel
theorem dX9_begin_22 : decode cX9_begin 22 = .ok (.iconst 0, 1) := by decide +kernel
theorem dX9_begin_23 : decode cX9_begin 23 = .ok (.istore_n 2, 1) := by decide +kernel
theorem dX9_begin_24 : decode cX9_begin 24 = .ok (.iload_n 2, 1) := by decide +kernel
theorem dX9_begin_25 : decode cX9_begin 25 = .ok (.aload_n 0, 1) := by decide +kernel
theorem dX9_begin_26 : decode cX9_begin 26 = .ok (.getfield 25, 3) := by decide +kernel
theorem dX9_begin_29 : decode cX9_begin 29 = .ok (.getfield 38, 3) := by decide +kernel
theorem dX9_begin_32 : decode cX9_begin 32 = .ok (.if_icmp .ge 61, 3) := by decide +kernel
theorem dX9_begin_35 : decode cX9_begin 35 = .ok (.aload_n 0, 1) := by decide +kernel
theorem dX9_begin_36 : decode cX9_begin 36 = .ok (.getfield 25, 3) := by decide +kernel
theorem dX9_begin_39 : decode cX9_begin 39 = .ok (.iload_n 2, 1) := by decide +kernel
theorem dX9_begin_40 : decode cX9_begin 40 = .ok (.invokevirtual 43, 3) := by decide +kernel
theorem dX9_begin_43 : decode cX9_begin 43 = .ok (.invokestatic 47, 3) := by decide +kernel
theorem dX9_begin_46 : decode cX9_begin 46 = .ok (.istore_n 3, 1) := by decide +kernel
theorem dX9_begin_47 : decode cX9_begin 47 = .ok (.iload_n 3, 1) := by decide +kernel
theorem dX9_begin_48 : decode cX9_begin 48 = .ok (.iload_n 1, 1) := by decide +kernel
theorem dX9_begin_49 : decode cX9_begin 49 = .ok (.if_icmp .ne 23, 3) := by decide +kernel
theorem dX9_begin_52 : decode cX9_begin 52 = .ok (.iload_n 3, 1) := by decide +kernel
theorem dX9_begin_53 : decode cX9_begin 53 = .ok (.iconst 1, 1) := by decide +kernel
theorem dX9_begin_54 : decode cX9_begin 54 = .ok (.if_icmp .eq 8, 3) := by decide +kernel
theorem dX9_begin_57 : decode cX9_begin 57 = .ok (.iload_n 3, 1) := by decide +kernel
theorem dX9_begin_58 : decode cX9_begin 58 = .ok (.iconst 2, 1) := by decide +kernel
theorem dX9_begin_59 : decode cX9_begin 59 = .ok (.if_icmp .ne 13, 3) := by decide +kernel
theorem dX9_begin_62 : decode cX9_begin 62 = .ok (.aload_n 0, 1) := by decide +kernel
theorem dX9_begin_63 : decode cX9_begin 63 = .ok (.iload_n 2, 1) := by decide +kernel
theorem dX9_begin_64 : decode cX9_begin 64 = .ok (.iconst 1, 1) := by decide +kernel
theorem dX9_begin_65 : decode cX9_begin 65 = .ok (.iadd, 1) := by decide +kernel
theorem dX9_begin_66 : decode cX9_begin 66 = .ok (.invokevirtual 50, 3) := by decide +kernel
theorem dX9_begin_69 : decode cX9_begin 69 = .ok (.goto 16, 3) := by decide +kernel
theorem dX9_begin_72 : decode cX9_begin 72 = .ok (.iload_n 3, 1) := by decide +kernel
theorem dX9_begin_73 : decode cX9_begin 73 = .ok (.ifCond .eq 12, 3) := by decide +kernel
theorem dX9_begin_76 : decode cX9_begin 76 = .ok (.aload_n 0, 1) := by decide +kernel
theorem dX9_begin_77 : decode cX9_begin 77 = .ok (.iload_n 3, 1) := by decide +kernel
theorem dX9_begin_78 : decode cX9_begin 78 = .ok (.iload_n 2, 1) := by decide +kernel
theorem dX9_begin_79 : decode cX9_begin 79 = .ok (.iload_n 2, 1) := by decide +kernel
theorem dX9_begin_80 : decode cX9_begin 80 = .ok (.iconst 1, 1) := by decide +kernel
theorem dX9_begin_81 : decode cX9_begin 81 = .ok (.iadd, 1) := by decide +kernel
theorem dX9_begin_82 : decode cX9_begin 82 = .ok (.invokevirtual 54, 3) := by decide +kernel
theorem dX9_begin_85 : decode cX9_begin 85 = .ok (.iload_n 3, 1) := by decide +kernel
theorem dX9_begin_86 : decode cX9_begin 86 = .ok (.istore_n 1, 1) := by decide +kernel
theorem dX9_begin_87 : decode cX9_begin 87 = .ok (.iinc 2 1, 3) := by decide +kernel
theorem dX9_begin_90 : decode cX9_begin 90 = .ok (.goto (-66), 3) := by decide +kernel
theorem dX9_begin_93 : decode cX9_begin 93 = .ok (.aload_n 0, 1) := by decide +kernel
theorem dX9_begin_94 : decode cX9_begin 94 = .ok (.iconst 4, 1) := by decide +kernel
theorem dX9_begin_95 : decode cX9_begin 95 = .ok (.aload_n 0, 1) := by decide +kernel
theorem dX9_begin_96 : decode cX9_begin 96 = .ok (.getfield 25, 3) := by decide +kernel
theorem dX9_begin_99 : decode cX9_begin 99 = .ok (.getfield 38, 3) := by decide +kernel
theorem dX9_begin_102 : decode cX9_begin 102 = .ok (.aload_n 0, 1) := by decide +kernel
theorem dX9_begin_103 : decode cX9_begin 103 = .ok (.getfield 25, 3) := by decide +kernel
theorem dX9_begin_106 : decode cX9_begin 106 = .ok (.getfield 38, 3) := by decide +kernel
theorem dX9_begin_109 : decode cX9_begin 109 = .ok (.invokevirtual 54, 3) := by decide +kernel
theorem dX9_begin_112 : decode cX9_begin 112 = .ok (.return_, 1) := by decide +kernel
theorem dX9_kindOf_0 : decode cX9_kindOf 0 = .ok (.iload_n 0, 1) := by decide +kernel
theorem dX9_kindOf_1 : decode cX9_kindOf 1 = .ok (.invokestatic 58, 3) := by decide +kernel
theorem dX9_kindOf_4 : decode cX9_kindOf 4 = .ok (.ifCond .eq 5, 3) := by decide +kernel
theorem dX9_kindOf_7 : decode cX9_kindOf 7 = .ok (.iconst 1, 1) := by decide +kernel
theorem dX9_kindOf_8 : decode cX9_kindOf 8 = .ok (.ireturn, 1) := by decide +kernel
theorem dX9_kindOf_9 : decode cX9_kindOf 9 = .ok (.iload_n 0, 1) := by decide +kernel
theorem dX9_kindOf_10 : decode cX9_kindOf 10 = .ok (.invokestatic 62, 3) := by decide +kernel
theorem dX9_kindOf_13 : decode cX9_kindOf 13 = .ok (.ifCond .eq 5, 3) := by decide +kernel
theorem dX9_kindOf_16 : decode cX9_kindOf 16 = .ok (.iconst 2, 1) := by decide +kernel
theorem dX9_kindOf_17 : decode cX9_kindOf 17 = .ok (.ireturn, 1) := by decide +kernel
theorem dX9_kindOf_18 : decode cX9_kindOf 18 = .ok (.iload_n 0, 1) := by decide +kernel
theorem dX9_kindOf_19 : decode cX9_kindOf 19 = .ok (.bipush 32, 2) := by decide +kernel
theorem dX9_kindOf_21 : decode cX9_kindOf 21 = .ok (.if_icmp .eq 9, 3) := by decide +kernel
theorem dX9_kindOf_24 : decode cX9_kindOf 24 = .ok (.iload_n 0, 1) := by decide +kernel
theorem dX9_kindOf_25 : decode cX9_kindOf 25 = .ok (.bipush 10, 2) := by decide +kernel
theorem dX9_kindOf_27 : decode cX9_kindOf 27 = .ok (.if_icmp .ne 7, 3) := by decide +kernel
theorem dX9_kindOf_30 : decode cX9_kindOf 30 = .ok (.iconst 0, 1) := by decide +kernel
theorem dX9_kindOf_31 : decode cX9_kindOf 31 = .ok (.goto 4, 3) := by decide +kernel
theorem dX9_kindOf_34 : decode cX9_kindOf 34 = .ok (.iconst 3, 1) := by decide +kernel
theorem dX9_kindOf_35 : decode cX9_kindOf 35 = .ok (.ireturn, 1) := by decide +kernel
theorem dX9_add_0 : decode cX9_add 0 = .ok (.aload_n 0, 1) := by decide +kernel
theorem dX9_add_1 : decode cX9_add 1 = .ok (.getfield 35, 3) := by decide +kernel
theorem dX9_add_4 : decode cX9_add 4 = .ok (.aload_n 0, 1) := by decide +kernel
theorem dX9_add_5 : decode cX9_add 5 = .ok (.getfield 9, 3) := by decide +kernel
theorem dX9_add_8 : decode cX9_add 8 = .ok (.arraylength, 1) := by decide +kernel
theorem dX9_add_9 : decode cX9_add 9 = .ok (.if_icmp .ge 43, 3) := by decide +kernel
theorem dX9_add_12 : decode cX9_add 12 = .ok (.aload_n 0, 1) := by decide +kernel
theorem dX9_add_13 : decode cX9_add 13 = .ok (.getfield 9, 3) := by decide +kernel
theorem dX9_add_16 : decode cX9_add 16 = .ok (.aload_n 0, 1) := by decide +kernel
theorem dX9_add_17 : decode cX9_add 17 = .ok (.getfield 35, 3) := by decide +kernel
theorem dX9_add_20 : decode cX9_add 20 = .ok (.iload_n 1, 1) := by decide +kernel
theorem dX9_add_21 : decode cX9_add 21 = .ok (.iastore, 1) := by decide +kernel
theorem dX9_add_22 : decode cX9_add 22 = .ok (.aload_n 0, 1) := by decide +kernel
theorem dX9_add_23 : decode cX9_add 23 = .ok (.getfield 15, 3) := by decide +kernel
theorem dX9_add_26 : decode cX9_add 26 = .ok (.aload_n 0, 1) := by decide +kernel
theorem dX9_add_27 : decode cX9_add 27 = .ok (.getfield 35, 3) := by decide +kernel
theorem dX9_add_30 : decode cX9_add 30 = .ok (.iload_n 2, 1) := by decide +kernel
theorem dX9_add_31 : decode cX9_add 31 = .ok (.iastore, 1) := by decide +kernel
theorem dX9_add_32 : decode cX9_add 32 = .ok (.aload_n 0, 1) := by decide +kernel
theorem dX9_add_33 : decode cX9_add 33 = .ok (.getfield 18, 3) := by decide +kernel
theorem dX9_add_36 : decode cX9_add 36 = .ok (.aload_n 0, 1) := by decide +kernel
theorem dX9_add_37 : decode cX9_add 37 = .ok (.getfield 35, 3) := by decide +kernel
theorem dX9_add_40 : decode cX9_add 40 = .ok (.iload_n 3, 1) := by decide +kernel
theorem dX9_add_41 : decode cX9_add 41 = .ok (.iastore, 1) := by decide +kernel
theorem dX9_add_42 : decode cX9_add 42 = .ok (.aload_n 0, 1) := by decide +kernel
theorem dX9_add_43 : decode cX9_add 43 = .ok (.dup, 1) := by decide +kernel
theorem dX9_add_44 : decode cX9_add 44 = .ok (.getfield 35, 3) := by decide +kernel
theorem dX9_add_47 : decode cX9_add 47 = .ok (.iconst 1, 1) := by decide +kernel
theorem dX9_add_48 : decode cX9_add 48 = .ok (.iadd, 1) := by decide +kernel
theorem dX9_add_49 : decode cX9_add 49 = .ok (.putfield 35, 3) := by decide +kernel
theorem dX9_add_52 : decode cX9_add 52 = .ok (.return_, 1) := by decide +kernel
theorem dX9_lengthen_0 : decode cX9_lengthen 0 = .ok (.aload_n 0, 1) := by decide +kernel
theorem dX9_lengthen_1 : decode cX9_lengthen 1 = .ok (.getfield 35, 3) := by decide +kernel
theorem dX9_lengthen_4 : decode cX9_lengthen 4 = .ok (.ifCond .le 15, 3) := by decide +kernel
theorem dX9_lengthen_7 : decode cX9_lengthen 7 = .ok (.aload_n 0, 1) := by decide +kernel
theorem dX9_lengthen_8 : decode cX9_lengthen 8 = .ok (.getfield 18, 3) := by decide +kernel
theorem dX9_lengthen_11 : decode cX9_lengthen 11 = .ok (.aload_n 0, 1) := by decide +kernel
theorem dX9_lengthen_12 : decode cX9_lengthen 12 = .ok (.getfield 35, 3) := by decide +kernel
theorem dX9_lengthen_15 : decode cX9_lengthen 15 = .ok (.iconst 1, 1) := by decide +kernel
theorem dX9_lengthen_16 : decode cX9_lengthen 16 = .ok (.isub, 1) := by decide +kernel
theorem dX9_lengthen_17 : decode cX9_lengthen 17 = .ok (.iload_n 1, 1) := by decide +kernel
theorem dX9_lengthen_18 : decode cX9_lengthen 18 = .ok (.iastore, 1) := by decide +kernel
theorem dX9_lengthen_19 : decode cX9_lengthen 19 = .ok (.return_, 1) := by decide +kernel
theorem dX9_failed_0 : decode cX9_failed 0 = .ok (.aload_n 0, 1) := by decide +kernel
theorem dX9_failed_1 : decode cX9_failed 1 = .ok (.getfield 29, 3) := by decide +kernel
theorem dX9_failed_4 : decode cX9_failed 4 = .ok (.ifCond .eq 7, 3) := by decide +kernel
theorem dX9_failed_7 : decode cX9_failed 7 = .ok (.iconst 1, 1) := by decide +kernel
theorem dX9_failed_8 : decode cX9_failed 8 = .ok (.goto 4, 3) := by decide +kernel
theorem dX9_failed_11 : decode cX9_failed 11 = .ok (.iconst 0, 1) := by decide +kernel
theorem dX9_failed_12 : decode cX9_failed 12 = .ok (.ireturn, 1) := by decide +kernel
theorem dX9_refuse_0 : decode cX9_refuse 0 = .ok (.aload_n 0, 1) := by decide +kernel
theorem dX9_refuse_1 : decode cX9_refuse 1 = .ok (.aload_n 0, 1) := by decide +kernel
theorem dX9_refuse_2 : decode cX9_refuse 2 = .ok (.getfield 32, 3) := by decide +kernel
theorem dX9_refuse_5 : decode cX9_refuse 5 = .ok (.iload_n 1, 1) := by decide +kernel
theorem dX9_refuse_6 : decode cX9_refuse 6 = .ok (.invokevirtual 65, 3) := by decide +kernel
theorem dX9_refuse_9 : decode cX9_refuse 9 = .ok (.return_, 1) := by decide +kernel
theorem dX9_refuseTaken_0 : decode cX9_refuseTaken 0 = .ok (.aload_n 0, 1) := by decide +kernel
theorem dX9_refuseTaken_1 : decode cX9_refuseTaken 1 = .ok (.aload_n 0, 1) := by decide +kernel
theorem dX9_refuseTaken_2 : decode cX9_refuseTaken 2 = .ok (.getfield 32, 3) := by decide +kernel
theorem dX9_refuseTaken_5 : decode cX9_refuseTaken 5 = .ok (.iconst 1, 1) := by decide +kernel
theorem dX9_refuseTaken_6 : decode cX9_refuseTaken 6 = .ok (.isub, 1) := by decide +kernel
theorem dX9_refuseTaken_7 : decode cX9_refuseTaken 7 = .ok (.iload_n 1, 1) := by decide +kernel
theorem dX9_refuseTaken_8 : decode cX9_refuseTaken 8 = .ok (.invokevirtual 65, 3) := by decide +kernel
theorem dX9_refuseTaken_11 : decode cX9_refuseTaken 11 = .ok (.return_, 1) := by decide +kernel
theorem dX9_failAt_0 : decode cX9_failAt 0 = .ok (.aload_n 0, 1) := by decide +kernel
theorem dX9_failAt_1 : decode cX9_failAt 1 = .ok (.getfield 29, 3) := by decide +kernel
theorem dX9_failAt_4 : decode cX9_failAt 4 = .ok (.ifCond .ne 30, 3) := by decide +kernel
theorem dX9_failAt_7 : decode cX9_failAt 7 = .ok (.iload_n 1, 1) := by decide +kernel
theorem dX9_failAt_8 : decode cX9_failAt 8 = .ok (.ifCond .lt 26, 3) := by decide +kernel
theorem dX9_failAt_11 : decode cX9_failAt 11 = .ok (.iload_n 1, 1) := by decide +kernel
theorem dX9_failAt_12 : decode cX9_failAt 12 = .ok (.aload_n 0, 1) := by decide +kernel
theorem dX9_failAt_13 : decode cX9_failAt 13 = .ok (.getfield 35, 3) := by decide +kernel
theorem dX9_failAt_16 : decode cX9_failAt 16 = .ok (.if_icmp .ge 18, 3) := by decide +kernel
theorem dX9_failAt_19 : decode cX9_failAt 19 = .ok (.aload_n 0, 1) := by decide +kernel
theorem dX9_failAt_20 : decode cX9_failAt 20 = .ok (.iload_n 2, 1) := by decide +kernel
theorem dX9_failAt_21 : decode cX9_failAt 21 = .ok (.putfield 29, 3) := by decide +kernel
theorem dX9_failAt_24 : decode cX9_failAt 24 = .ok (.aload_n 0, 1) := by decide +kernel
theorem dX9_failAt_25 : decode cX9_failAt 25 = .ok (.aload_n 0, 1) := by decide +kernel
theorem dX9_failAt_26 : decode cX9_failAt 26 = .ok (.getfield 15, 3) := by decide +kernel
theorem dX9_failAt_29 : decode cX9_failAt 29 = .ok (.iload_n 1, 1) := by decide +kernel
theorem dX9_failAt_30 : decode cX9_failAt 30 = .ok (.iaload, 1) := by decide +kernel
theorem dX9_failAt_31 : decode cX9_failAt 31 = .ok (.putfield 21, 3) := by decide +kernel
theorem dX9_failAt_34 : decode cX9_failAt 34 = .ok (.return_, 1) := by decide +kernel
theorem dX9_at_0 : decode cX9_at 0 = .ok (.aload_n 0, 1) := by decide +kernel
theorem dX9_at_1 : decode cX9_at 1 = .ok (.getfield 29, 3) := by decide +kernel
theorem dX9_at_4 : decode cX9_at 4 = .ok (.ifCond .ne 31, 3) := by decide +kernel
theorem dX9_at_7 : decode cX9_at 7 = .ok (.aload_n 0, 1) := by decide +kernel
theorem dX9_at_8 : decode cX9_at 8 = .ok (.getfield 32, 3) := by decide +kernel
theorem dX9_at_11 : decode cX9_at 11 = .ok (.aload_n 0, 1) := by decide +kernel
theorem dX9_at_12 : decode cX9_at 12 = .ok (.getfield 35, 3) := by decide +kernel
theorem dX9_at_15 : decode cX9_at 15 = .ok (.if_icmp .ge 20, 3) := by decide +kernel
theorem dX9_at_18 : decode cX9_at 18 = .ok (.aload_n 0, 1) := by decide +kernel
theorem dX9_at_19 : decode cX9_at 19 = .ok (.getfield 9, 3) := by decide +kernel
theorem dX9_at_22 : decode cX9_at 22 = .ok (.aload_n 0, 1) := by decide +kernel
theorem dX9_at_23 : decode cX9_at 23 = .ok (.getfield 32, 3) := by decide +kernel
theorem dX9_at_26 : decode cX9_at 26 = .ok (.iaload, 1) := by decide +kernel
theorem dX9_at_27 : decode cX9_at 27 = .ok (.iload_n 1, 1) := by decide +kernel
theorem dX9_at_28 : decode cX9_at 28 = .ok (.if_icmp .ne 7, 3) := by decide +kernel
theorem dX9_at_31 : decode cX9_at 31 = .ok (.iconst 1, 1) := by decide +kernel
theorem dX9_at_32 : decode cX9_at 32 = .ok (.goto 4, 3) := by decide +kernel
theorem dX9_at_35 : decode cX9_at 35 = .ok (.iconst 0, 1) := by decide +kernel
theorem dX9_at_36 : decode cX9_at 36 = .ok (.ireturn, 1) := by decide +kernel
theorem dX9_atEnd_0 : decode cX9_atEnd 0 = .ok (.aload_n 0, 1) := by decide +kernel
theorem dX9_atEnd_1 : decode cX9_atEnd 1 = .ok (.invokevirtual 69, 3) := by decide +kernel
theorem dX9_atEnd_4 : decode cX9_atEnd 4 = .ok (.ifCond .ne 11, 3) := by decide +kernel
theorem dX9_atEnd_7 : decode cX9_atEnd 7 = .ok (.aload_n 0, 1) := by decide +kernel
theorem dX9_atEnd_8 : decode cX9_atEnd 8 = .ok (.iconst 4, 1) := by decide +kernel
theorem dX9_atEnd_9 : decode cX9_atEnd 9 = .ok (.invokevirtual 73, 3) := by decide +kernel
theorem dX9_atEnd_12 : decode cX9_atEnd 12 = .ok (.ifCond .eq 7, 3) := by decide +kernel
theorem dX9_atEnd_15 : decode cX9_atEnd 15 = .ok (.iconst 1, 1) := by decide +kernel
theorem dX9_atEnd_16 : decode cX9_atEnd 16 = .ok (.goto 4, 3) := by decide +kernel
theorem dX9_atEnd_19 : decode cX9_atEnd 19 = .ok (.iconst 0, 1) := by decide +kernel
theorem dX9_atEnd_20 : decode cX9_atEnd 20 = .ok (.ireturn, 1) := by decide +kernel
theorem dX9_atWord_0 : decode cX9_atWord 0 = .ok (.aload_n 0, 1) := by decide +kernel
theorem dX9_atWord_1 : decode cX9_atWord 1 = .ok (.iconst 1, 1) := by decide +kernel
theorem dX9_atWord_2 : decode cX9_atWord 2 = .ok (.invokevirtual 73, 3) := by decide +kernel
theorem dX9_atWord_5 : decode cX9_atWord 5 = .ok (.ifCond .eq 29, 3) := by decide +kernel
theorem dX9_atWord_8 : decode cX9_atWord 8 = .ok (.aload_n 1, 1) := by decide +kernel
theorem dX9_atWord_9 : decode cX9_atWord 9 = .ok (.invokevirtual 76, 3) := by decide +kernel
theorem dX9_atWord_12 : decode cX9_atWord 12 = .ok (.aload_n 0, 1) := by decide +kernel
theorem dX9_atWord_13 : decode cX9_atWord 13 = .ok (.getfield 18, 3) := by decide +kernel
theorem dX9_atWord_16 : decode cX9_atWord 16 = .ok (.aload_n 0, 1) := by decide +kernel
theorem dX9_atWord_17 : decode cX9_atWord 17 = .ok (.getfield 32, 3) := by decide +kernel
theorem dX9_atWord_20 : decode cX9_atWord 20 = .ok (.iaload, 1) := by decide +kernel
theorem dX9_atWord_21 : decode cX9_atWord 21 = .ok (.aload_n 0, 1) := by decide +kernel
theorem dX9_atWord_22 : decode cX9_atWord 22 = .ok (.getfield 15, 3) := by decide +kernel
theorem dX9_atWord_25 : decode cX9_atWord 25 = .ok (.aload_n 0, 1) := by decide +kernel
theorem dX9_atWord_26 : decode cX9_atWord 26 = .ok (.getfield 32, 3) := by decide +kernel
theorem dX9_atWord_29 : decode cX9_atWord 29 = .ok (.iaload, 1) := by decide +kernel
theorem dX9_atWord_30 : decode cX9_atWord 30 = .ok (.isub, 1) := by decide +kernel
theorem dX9_atWord_31 : decode cX9_atWord 31 = .ok (.if_icmp .eq 5, 3) := by decide +kernel
theorem dX9_atWord_34 : decode cX9_atWord 34 = .ok (.iconst 0, 1) := by decide +kernel
theorem dX9_atWord_35 : decode cX9_atWord 35 = .ok (.ireturn, 1) := by decide +kernel
theorem dX9_atWord_36 : decode cX9_atWord 36 = .ok (.iconst 0, 1) := by decide +kernel
theorem dX9_atWord_37 : decode cX9_atWord 37 = .ok (.istore_n 2, 1) := by decide +kernel
theorem dX9_atWord_38 : decode cX9_atWord 38 = .ok (.iload_n 2, 1) := by decide +kernel
theorem dX9_atWord_39 : decode cX9_atWord 39 = .ok (.aload_n 1, 1) := by decide +kernel
theorem dX9_atWord_40 : decode cX9_atWord 40 = .ok (.invokevirtual 76, 3) := by decide +kernel
theorem dX9_atWord_43 : decode cX9_atWord 43 = .ok (.if_icmp .ge 37, 3) := by decide +kernel
theorem dX9_atWord_46 : decode cX9_atWord 46 = .ok (.aload_n 1, 1) := by decide +kernel
theorem dX9_atWord_47 : decode cX9_atWord 47 = .ok (.iload_n 2, 1) := by decide +kernel
theorem dX9_atWord_48 : decode cX9_atWord 48 = .ok (.invokevirtual 81, 3) := by decide +kernel
theorem dX9_atWord_51 : decode cX9_atWord 51 = .ok (.aload_n 0, 1) := by decide +kernel
theorem dX9_atWord_52 : decode cX9_atWord 52 = .ok (.getfield 25, 3) := by decide +kernel
theorem dX9_atWord_55 : decode cX9_atWord 55 = .ok (.aload_n 0, 1) := by decide +kernel
theorem dX9_atWord_56 : decode cX9_atWord 56 = .ok (.getfield 15, 3) := by decide +kernel
theorem dX9_atWord_59 : decode cX9_atWord 59 = .ok (.aload_n 0, 1) := by decide +kernel
theorem dX9_atWord_60 : decode cX9_atWord 60 = .ok (.getfield 32, 3) := by decide +kernel
theorem dX9_atWord_63 : decode cX9_atWord 63 = .ok (.iaload, 1) := by decide +kernel
theorem dX9_atWord_64 : decode cX9_atWord 64 = .ok (.iload_n 2, 1) := by decide +kernel
theorem dX9_atWord_65 : decode cX9_atWord 65 = .ok (.iadd, 1) := by decide +kernel
theorem dX9_atWord_66 : decode cX9_atWord 66 = .ok (.invokevirtual 43, 3) := by decide +kernel
theorem dX9_atWord_69 : decode cX9_atWord 69 = .ok (.if_icmp .eq 5, 3) := by decide +kernel
theorem dX9_atWord_72 : decode cX9_atWord 72 = .ok (.iconst 0, 1) := by decide +kernel
theorem dX9_atWord_73 : decode cX9_atWord 73 = .ok (.ireturn, 1) := by decide +kernel
theorem dX9_atWord_74 : decode cX9_atWord 74 = .ok (.iinc 2 1, 3) := by decide +kernel
theorem dX9_atWord_77 : decode cX9_atWord 77 = .ok (.goto (-39), 3) := by decide +kernel
theorem dX9_atWord_80 : decode cX9_atWord 80 = .ok (.iconst 1, 1) := by decide +kernel
theorem dX9_atWord_81 : decode cX9_atWord 81 = .ok (.ireturn, 1) := by decide +kernel
theorem dX9_atSign_0 : decode cX9_atSign 0 = .ok (.aload_n 0, 1) := by decide +kernel
theorem dX9_atSign_1 : decode cX9_atSign 1 = .ok (.iconst 3, 1) := by decide +kernel
theorem dX9_atSign_2 : decode cX9_atSign 2 = .ok (.invokevirtual 73, 3) := by decide +kernel
theorem dX9_atSign_5 : decode cX9_atSign 5 = .ok (.ifCond .eq 27, 3) := by decide +kernel
theorem dX9_atSign_8 : decode cX9_atSign 8 = .ok (.aload_n 0, 1) := by decide +kernel
theorem dX9_atSign_9 : decode cX9_atSign 9 = .ok (.getfield 25, 3) := by decide +kernel
theorem dX9_atSign_12 : decode cX9_atSign 12 = .ok (.aload_n 0, 1) := by decide +kernel
theorem dX9_atSign_13 : decode cX9_atSign 13 = .ok (.getfield 15, 3) := by decide +kernel
theorem dX9_atSign_16 : decode cX9_atSign 16 = .ok (.aload_n 0, 1) := by decide +kernel
theorem dX9_atSign_17 : decode cX9_atSign 17 = .ok (.getfield 32, 3) := by decide +kernel
theorem dX9_atSign_20 : decode cX9_atSign 20 = .ok (.iaload, 1) := by decide +kernel
theorem dX9_atSign_21 : decode cX9_atSign 21 = .ok (.invokevirtual 43, 3) := by decide +kernel
theorem dX9_atSign_24 : decode cX9_atSign 24 = .ok (.iload_n 1, 1) := by decide +kernel
theorem dX9_atSign_25 : decode cX9_atSign 25 = .ok (.if_icmp .ne 7, 3) := by decide +kernel
theorem dX9_atSign_28 : decode cX9_atSign 28 = .ok (.iconst 1, 1) := by decide +kernel
theorem dX9_atSign_29 : decode cX9_atSign 29 = .ok (.goto 4, 3) := by decide +kernel
theorem dX9_atSign_32 : decode cX9_atSign 32 = .ok (.iconst 0, 1) := by decide +kernel
theorem dX9_atSign_33 : decode cX9_atSign 33 = .ok (.ireturn, 1) := by decide +kernel
theorem dX9_takeWord_0 : decode cX9_takeWord 0 = .ok (.aload_n 0, 1) := by decide +kernel
theorem dX9_takeWord_1 : decode cX9_takeWord 1 = .ok (.aload_n 0, 1) := by decide +kernel
theorem dX9_takeWord_2 : decode cX9_takeWord 2 = .ok (.aload_n 1, 1) := by decide +kernel
theorem dX9_takeWord_3 : decode cX9_takeWord 3 = .ok (.invokevirtual 85, 3) := by decide +kernel
theorem dX9_takeWord_6 : decode cX9_takeWord 6 = .ok (.invokevirtual 89, 3) := by decide +kernel
theorem dX9_takeWord_9 : decode cX9_takeWord 9 = .ok (.return_, 1) := by decide +kernel
theorem dX9_takeAnyWord_0 : decode cX9_takeAnyWord 0 = .ok (.aload_n 0, 1) := by decide +kernel
theorem dX9_takeAnyWord_1 : decode cX9_takeAnyWord 1 = .ok (.aload_n 0, 1) := by decide +kernel
theorem dX9_takeAnyWord_2 : decode cX9_takeAnyWord 2 = .ok (.iconst 1, 1) := by decide +kernel
theorem dX9_takeAnyWord_3 : decode cX9_takeAnyWord 3 = .ok (.invokevirtual 73, 3) := by decide +kernel
theorem dX9_takeAnyWord_6 : decode cX9_takeAnyWord 6 = .ok (.invokevirtual 89, 3) := by decide +kernel
theorem dX9_takeAnyWord_9 : decode cX9_takeAnyWord 9 = .ok (.return_, 1) := by decide +kernel
theorem dX9_takeSign_0 : decode cX9_takeSign 0 = .ok (.aload_n 0, 1) := by decide +kernel
theorem dX9_takeSign_1 : decode cX9_takeSign 1 = .ok (.aload_n 0, 1) := by decide +kernel
theorem dX9_takeSign_2 : decode cX9_takeSign 2 = .ok (.iload_n 1, 1) := by decide +kernel
theorem dX9_takeSign_3 : decode cX9_takeSign 3 = .ok (.invokevirtual 93, 3) := by decide +kernel
theorem dX9_takeSign_6 : decode cX9_takeSign 6 = .ok (.invokevirtual 89, 3) := by decide +kernel
theorem dX9_takeSign_9 : decode cX9_takeSign 9 = .ok (.return_, 1) := by decide +kernel
theorem dX9_takeName_0 : decode cX9_takeName 0 = .ok (.aload_n 0, 1) := by decide +kernel
theorem dX9_takeName_1 : decode cX9_takeName 1 = .ok (.iconst 1, 1) := by decide +kernel
theorem dX9_takeName_2 : decode cX9_takeName 2 = .ok (.invokevirtual 73, 3) := by decide +kernel
theorem dX9_takeName_5 : decode cX9_takeName 5 = .ok (.ifCond .eq 31, 3) := by decide +kernel
theorem dX9_takeName_8 : decode cX9_takeName 8 = .ok (.aload_n 0, 1) := by decide +kernel
theorem dX9_takeName_9 : decode cX9_takeName 9 = .ok (.getfield 25, 3) := by decide +kernel
theorem dX9_takeName_12 : decode cX9_takeName 12 = .ok (.aload_n 0, 1) := by decide +kernel
theorem dX9_takeName_13 : decode cX9_takeName 13 = .ok (.getfield 15, 3) := by decide +kernel
theorem dX9_takeName_16 : decode cX9_takeName 16 = .ok (.aload_n 0, 1) := by decide +kernel
theorem dX9_takeName_17 : decode cX9_takeName 17 = .ok (.getfield 32, 3) := by decide +kernel
theorem dX9_takeName_20 : decode cX9_takeName 20 = .ok (.iaload, 1) := by decide +kernel
theorem dX9_takeName_21 : decode cX9_takeName 21 = .ok (.aload_n 0, 1) := by decide +kernel
theorem dX9_takeName_22 : decode cX9_takeName 22 = .ok (.getfield 18, 3) := by decide +kernel
theorem dX9_takeName_25 : decode cX9_takeName 25 = .ok (.aload_n 0, 1) := by decide +kernel
theorem dX9_takeName_26 : decode cX9_takeName 26 = .ok (.getfield 32, 3) := by decide +kernel
theorem dX9_takeName_29 : decode cX9_takeName 29 = .ok (.iaload, 1) := by decide +kernel
theorem dX9_takeName_30 : decode cX9_takeName 30 = .ok (.invokevirtual 97, 3) := by decide +kernel
theorem dX9_takeName_33 : decode cX9_takeName 33 = .ok (.goto 4, 3) := by decide +kernel
theorem dX9_takeName_36 : decode cX9_takeName 36 = .ok (.lconst 0, 1) := by decide +kernel
theorem dX9_takeName_37 : decode cX9_takeName 37 = .ok (.lstore_n 1, 1) := by decide +kernel
theorem dX9_takeName_38 : decode cX9_takeName 38 = .ok (.aload_n 0, 1) := by decide +kernel
theorem dX9_takeName_39 : decode cX9_takeName 39 = .ok (.lload_n 1, 1) := by decide +kernel
theorem dX9_takeName_40 : decode cX9_takeName 40 = .ok (.lconst 0, 1) := by decide +kernel
theorem dX9_takeName_41 : decode cX9_takeName 41 = .ok (.lcmp, 1) := by decide +kernel
theorem dX9_takeName_42 : decode cX9_takeName 42 = .ok (.ifCond .eq 7, 3) := by decide +kernel
theorem dX9_takeName_45 : decode cX9_takeName 45 = .ok (.iconst 1, 1) := by decide +kernel
theorem dX9_takeName_46 : decode cX9_takeName 46 = .ok (.goto 4, 3) := by decide +kernel
theorem dX9_takeName_49 : decode cX9_takeName 49 = .ok (.iconst 0, 1) := by decide +kernel
theorem dX9_takeName_50 : decode cX9_takeName 50 = .ok (.invokevirtual 89, 3) := by decide +kernel
theorem dX9_takeName_53 : decode cX9_takeName 53 = .ok (.lload_n 1, 1) := by decide +kernel
theorem dX9_takeName_54 : decode cX9_takeName 54 = .ok (.lreturn, 1) := by decide +kernel
theorem dX9_takeNumber_0 : decode cX9_takeNumber 0 = .ok (.aload_n 0, 1) := by decide +kernel
theorem dX9_takeNumber_1 : decode cX9_takeNumber 1 = .ok (.iconst 2, 1) := by decide +kernel
theorem dX9_takeNumber_2 : decode cX9_takeNumber 2 = .ok (.invokevirtual 73, 3) := by decide +kernel
theorem dX9_takeNumber_5 : decode cX9_takeNumber 5 = .ok (.istore_n 3, 1) := by decide +kernel
theorem dX9_takeNumber_6 : decode cX9_takeNumber 6 = .ok (.iload_n 3, 1) := by decide +kernel
theorem dX9_takeNumber_7 : decode cX9_takeNumber 7 = .ok (.ifCond .eq 10, 3) := by decide +kernel
theorem dX9_takeNumber_10 : decode cX9_takeNumber 10 = .ok (.aload_n 0, 1) := by decide +kernel
theorem dX9_takeNumber_11 : decode cX9_takeNumber 11 = .ok (.invokevirtual 101, 3) := by decide +kernel
theorem dX9_takeNumber_14 : decode cX9_takeNumber 14 = .ok (.goto 4, 3) := by decide +kernel
theorem dX9_takeNumber_17 : decode cX9_takeNumber 17 = .ok (.iconst (-1), 1) := by decide +kernel
theorem dX9_takeNumber_18 : decode cX9_takeNumber 18 = .ok (.istore 4, 2) := by decide +kernel
theorem dX9_takeNumber_20 : decode cX9_takeNumber 20 = .ok (.iload_n 3, 1) := by decide +kernel
theorem dX9_takeNumber_21 : decode cX9_takeNumber 21 = .ok (.ifCond .eq 20, 3) := by decide +kernel
theorem dX9_takeNumber_24 : decode cX9_takeNumber 24 = .ok (.iload 4, 2) := by decide +kernel
theorem dX9_takeNumber_26 : decode cX9_takeNumber 26 = .ok (.iload_n 1, 1) := by decide +kernel
theorem dX9_takeNumber_27 : decode cX9_takeNumber 27 = .ok (.if_icmp .lt 9, 3) := by decide +kernel
theorem dX9_takeNumber_30 : decode cX9_takeNumber 30 = .ok (.iload 4, 2) := by decide +kernel
theorem dX9_takeNumber_32 : decode cX9_takeNumber 32 = .ok (.iload_n 2, 1) := by decide +kernel
theorem dX9_takeNumber_33 : decode cX9_takeNumber 33 = .ok (.if_icmp .le 8, 3) := by decide +kernel
theorem dX9_takeNumber_36 : decode cX9_takeNumber 36 = .ok (.aload_n 0, 1) := by decide +kernel
theorem dX9_takeNumber_37 : decode cX9_takeNumber 37 = .ok (.iconst 2, 1) := by decide +kernel
theorem dX9_takeNumber_38 : decode cX9_takeNumber 38 = .ok (.invokevirtual 104, 3) := by decide +kernel
theorem dX9_takeNumber_41 : decode cX9_takeNumber 41 = .ok (.aload_n 0, 1) := by decide +kernel
theorem dX9_takeNumber_42 : decode cX9_takeNumber 42 = .ok (.iload_n 3, 1) := by decide +kernel
theorem dX9_takeNumber_43 : decode cX9_takeNumber 43 = .ok (.invokevirtual 89, 3) := by decide +kernel
theorem dX9_takeNumber_46 : decode cX9_takeNumber 46 = .ok (.aload_n 0, 1) := by decide +kernel
theorem dX9_takeNumber_47 : decode cX9_takeNumber 47 = .ok (.getfield 29, 3) := by decide +kernel
theorem dX9_takeNumber_50 : decode cX9_takeNumber 50 = .ok (.ifCond .ne 8, 3) := by decide +kernel
theorem dX9_takeNumber_53 : decode cX9_takeNumber 53 = .ok (.iload 4, 2) := by decide +kernel
theorem dX9_takeNumber_55 : decode cX9_takeNumber 55 = .ok (.goto 4, 3) := by decide +kernel
theorem dX9_takeNumber_58 : decode cX9_takeNumber 58 = .ok (.iconst (-1), 1) := by decide +kernel
theorem dX9_takeNumber_59 : decode cX9_takeNumber 59 = .ok (.ireturn, 1) := by decide +kernel
theorem dX9_valueHere_0 : decode cX9_valueHere 0 = .ok (.iconst 0, 1) := by decide +kernel
theorem dX9_valueHere_1 : decode cX9_valueHere 1 = .ok (.istore_n 1, 1) := by decide +kernel
theorem dX9_valueHere_2 : decode cX9_valueHere 2 = .ok (.aload_n 0, 1) := by decide +kernel
theorem dX9_valueHere_3 : decode cX9_valueHere 3 = .ok (.getfield 15, 3) := by decide +kernel
theorem dX9_valueHere_6 : decode cX9_valueHere 6 = .ok (.aload_n 0, 1) := by decide +kernel
theorem dX9_valueHere_7 : decode cX9_valueHere 7 = .ok (.getfield 32, 3) := by decide +kernel
theorem dX9_valueHere_10 : decode cX9_valueHere 10 = .ok (.iaload, 1) := by decide +kernel
theorem dX9_valueHere_11 : decode cX9_valueHere 11 = .ok (.istore_n 2, 1) := by decide +kernel
theorem dX9_valueHere_12 : decode cX9_valueHere 12 = .ok (.iload_n 2, 1) := by decide +kernel
theorem dX9_valueHere_13 : decode cX9_valueHere 13 = .ok (.aload_n 0, 1) := by decide +kernel
theorem dX9_valueHere_14 : decode cX9_valueHere 14 = .ok (.getfield 18, 3) := by decide +kernel
theorem dX9_valueHere_17 : decode cX9_valueHere 17 = .ok (.aload_n 0, 1) := by decide +kernel
theorem dX9_valueHere_18 : decode cX9_valueHere 18 = .ok (.getfield 32, 3) := by decide +kernel
theorem dX9_valueHere_21 : decode cX9_valueHere 21 = .ok (.iaload, 1) := by decide +kernel
theorem dX9_valueHere_22 : decode cX9_valueHere 22 = .ok (.if_icmp .ge 31, 3) := by decide +kernel
theorem dX9_valueHere_25 : decode cX9_valueHere 25 = .ok (.ldc 107, 2) := by decide +kernel
theorem dX9_valueHere_27 : decode cX9_valueHere 27 = .ok (.iload_n 1, 1) := by decide +kernel
theorem dX9_valueHere_28 : decode cX9_valueHere 28 = .ok (.bipush 10, 2) := by decide +kernel
theorem dX9_valueHere_30 : decode cX9_valueHere 30 = .ok (.imul, 1) := by decide +kernel
theorem dX9_valueHere_31 : decode cX9_valueHere 31 = .ok (.aload_n 0, 1) := by decide +kernel
theorem dX9_valueHere_32 : decode cX9_valueHere 32 = .ok (.getfield 25, 3) := by decide +kernel
theorem dX9_valueHere_35 : decode cX9_valueHere 35 = .ok (.iload_n 2, 1) := by decide +kernel
theorem dX9_valueHere_36 : decode cX9_valueHere 36 = .ok (.invokevirtual 43, 3) := by decide +kernel
theorem dX9_valueHere_39 : decode cX9_valueHere 39 = .ok (.iadd, 1) := by decide +kernel
theorem dX9_valueHere_40 : decode cX9_valueHere 40 = .ok (.bipush 48, 2) := by decide +kernel
theorem dX9_valueHere_42 : decode cX9_valueHere 42 = .ok (.isub, 1) := by decide +kernel
theorem dX9_valueHere_43 : decode cX9_valueHere 43 = .ok (.invokestatic 108, 3) := by decide +kernel
theorem dX9_valueHere_46 : decode cX9_valueHere 46 = .ok (.istore_n 1, 1) := by decide +kernel
theorem dX9_valueHere_47 : decode cX9_valueHere 47 = .ok (.iinc 2 1, 3) := by decide +kernel
theorem dX9_valueHere_50 : decode cX9_valueHere 50 = .ok (.goto (-38), 3) := by decide +kernel
theorem dX9_valueHere_53 : decode cX9_valueHere 53 = .ok (.iload_n 1, 1) := by decide +kernel
theorem dX9_valueHere_54 : decode cX9_valueHere 54 = .ok (.ireturn, 1) := by decide +kernel
theorem dX9_takeSide_0 : decode cX9_takeSide 0 = .ok (.aload_n 0, 1) := by decide +kernel
theorem dX9_takeSide_1 : decode cX9_takeSide 1 = .ok (.ldc 114, 2) := by decide +kernel
theorem dX9_takeSide_3 : decode cX9_takeSide 3 = .ok (.invokevirtual 85, 3) := by decide +kernel
theorem dX9_takeSide_6 : decode cX9_takeSide 6 = .ok (.ifCond .eq 7, 3) := by decide +kernel
theorem dX9_takeSide_9 : decode cX9_takeSide 9 = .ok (.iconst (-1), 1) := by decide +kernel
theorem dX9_takeSide_10 : decode cX9_takeSide 10 = .ok (.goto 4, 3) := by decide +kernel
theorem dX9_takeSide_13 : decode cX9_takeSide 13 = .ok (.iconst 1, 1) := by decide +kernel
theorem dX9_takeSide_14 : decode cX9_takeSide 14 = .ok (.istore_n 1, 1) := by decide +kernel
theorem dX9_takeSide_15 : decode cX9_takeSide 15 = .ok (.aload_n 0, 1) := by decide +kernel
theorem dX9_takeSide_16 : decode cX9_takeSide 16 = .ok (.aload_n 0, 1) := by decide +kernel
theorem dX9_takeSide_17 : decode cX9_takeSide 17 = .ok (.ldc 114, 2) := by decide +kernel
theorem dX9_takeSide_19 : decode cX9_takeSide 19 = .ok (.invokevirtual 85, 3) := by decide +kernel
theorem dX9_takeSide_22 : decode cX9_takeSide 22 = .ok (.ifCond .ne 12, 3) := by decide +kernel
theorem dX9_takeSide_25 : decode cX9_takeSide 25 = .ok (.aload_n 0, 1) := by decide +kernel
theorem dX9_takeSide_26 : decode cX9_takeSide 26 = .ok (.ldc 116, 2) := by decide +kernel
theorem dX9_takeSide_28 : decode cX9_takeSide 28 = .ok (.invokevirtual 85, 3) := by decide +kernel
theorem dX9_takeSide_31 : decode cX9_takeSide 31 = .ok (.ifCond .eq 7, 3) := by decide +kernel
theorem dX9_takeSide_34 : decode cX9_takeSide 34 = .ok (.iconst 1, 1) := by decide +kernel
theorem dX9_takeSide_35 : decode cX9_takeSide 35 = .ok (.goto 4, 3) := by decide +kernel
theorem dX9_takeSide_38 : decode cX9_takeSide 38 = .ok (.iconst 0, 1) := by decide +kernel
theorem dX9_takeSide_39 : decode cX9_takeSide 39 = .ok (.invokevirtual 89, 3) := by decide +kernel
theorem dX9_takeSide_42 : decode cX9_takeSide 42 = .ok (.iload_n 1, 1) := by decide +kernel
theorem dX9_takeSide_43 : decode cX9_takeSide 43 = .ok (.ireturn, 1) := by decide +kernel
theorem dX9_takeEnd_0 : decode cX9_takeEnd 0 = .ok (.aload_n 0, 1) := by decide +kernel
theorem dX9_takeEnd_1 : decode cX9_takeEnd 1 = .ok (.iconst 4, 1) := by decide +kernel
theorem dX9_takeEnd_2 : decode cX9_takeEnd 2 = .ok (.invokevirtual 73, 3) := by decide +kernel
theorem dX9_takeEnd_5 : decode cX9_takeEnd 5 = .ok (.ifCond .ne 8, 3) := by decide +kernel
theorem dX9_takeEnd_8 : decode cX9_takeEnd 8 = .ok (.aload_n 0, 1) := by decide +kernel
theorem dX9_takeEnd_9 : decode cX9_takeEnd 9 = .ok (.iconst 1, 1) := by decide +kernel
theorem dX9_takeEnd_10 : decode cX9_takeEnd 10 = .ok (.invokevirtual 104, 3) := by decide +kernel
theorem dX9_takeEnd_13 : decode cX9_takeEnd 13 = .ok (.return_, 1) := by decide +kernel
theorem dX9_takeIf_0 : decode cX9_takeIf 0 = .ok (.iload_n 1, 1) := by decide +kernel
theorem dX9_takeIf_1 : decode cX9_takeIf 1 = .ok (.ifCond .ne 15, 3) := by decide +kernel
theorem dX9_takeIf_4 : decode cX9_takeIf 4 = .ok (.aload_n 0, 1) := by decide +kernel
theorem dX9_takeIf_5 : decode cX9_takeIf 5 = .ok (.aload_n 0, 1) := by decide +kernel
theorem dX9_takeIf_6 : decode cX9_takeIf 6 = .ok (.getfield 32, 3) := by decide +kernel
theorem dX9_takeIf_9 : decode cX9_takeIf 9 = .ok (.iconst 1, 1) := by decide +kernel
theorem dX9_takeIf_10 : decode cX9_takeIf 10 = .ok (.invokevirtual 65, 3) := by decide +kernel
theorem dX9_takeIf_13 : decode cX9_takeIf 13 = .ok (.goto 20, 3) := by decide +kernel
theorem dX9_takeIf_16 : decode cX9_takeIf 16 = .ok (.aload_n 0, 1) := by decide +kernel
theorem dX9_takeIf_17 : decode cX9_takeIf 17 = .ok (.getfield 29, 3) := by decide +kernel
theorem dX9_takeIf_20 : decode cX9_takeIf 20 = .ok (.ifCond .ne 13, 3) := by decide +kernel
theorem dX9_takeIf_23 : decode cX9_takeIf 23 = .ok (.aload_n 0, 1) := by decide +kernel
theorem dX9_takeIf_24 : decode cX9_takeIf 24 = .ok (.dup, 1) := by decide +kernel
theorem dX9_takeIf_25 : decode cX9_takeIf 25 = .ok (.getfield 32, 3) := by decide +kernel
theorem dX9_takeIf_28 : decode cX9_takeIf 28 = .ok (.iconst 1, 1) := by decide +kernel
theorem dX9_takeIf_29 : decode cX9_takeIf 29 = .ok (.iadd, 1) := by decide +kernel
theorem dX9_takeIf_30 : decode cX9_takeIf 30 = .ok (.putfield 32, 3) := by decide +kernel
theorem dX9_takeIf_33 : decode cX9_takeIf 33 = .ok (.return_, 1) := by decide +kernel
theorem dX10_init_0 : decode cX10_init 0 = .ok (.aload_n 0, 1) := by decide +kernel
theorem dX10_init_1 : decode cX10_init 1 = .ok (.invokespecial 3, 3) := by decide +kernel
theorem dX10_init_4 : decode cX10_init 4 = .ok (.aload_n 0, 1) := by decide +kernel
theorem dX10_init_5 : decode cX10_init 5 = .ok (.iload_n 1, 1) := by decide +kernel
theorem dX10_init_6 : decode cX10_init 6 = .ok (.putfield 9, 3) := by decide +kernel
theorem dX10_init_9 : decode cX10_init 9 = .ok (.return_, 1) := by decide +kernel
theorem dX10_isSeated_0 : decode cX10_isSeated 0 = .ok (.aload_n 0, 1) := by decide +kernel
theorem dX10_isSeated_1 : decode cX10_isSeated 1 = .ok (.getfield 15, 3) := by decide +kernel
theorem dX10_isSeated_4 : decode cX10_isSeated 4 = .ok (.iconst (-1), 1) := by decide +kernel
theorem dX10_isSeated_5 : decode cX10_isSeated 5 = .ok (.if_icmp .eq 7, 3) := by decide +kernel
theorem dX10_isSeated_8 : decode cX10_isSeated 8 = .ok (.iconst 1, 1) := by decide +kernel
theorem dX10_isSeated_9 : decode cX10_isSeated 9 = .ok (.goto 4, 3) := by decide +kernel
theorem dX10_isSeated_12 : decode cX10_isSeated 12 = .ok (.iconst 0, 1) := by decide +kernel
theorem dX10_isSeated_13 : decode cX10_isSeated 13 = .ok (.ireturn, 1) := by decide +kernel
theorem dX10_copyFrom_0 : decode cX10_copyFrom 0 = .ok (.aload_n 0, 1) := by decide +kernel
theorem dX10_copyFrom_1 : decode cX10_copyFrom 1 = .ok (.aload_n 1, 1) := by decide +kernel
theorem dX10_copyFrom_2 : decode cX10_copyFrom 2 = .ok (.getfield 18, 3) := by decide +kernel
theorem dX10_copyFrom_5 : decode cX10_copyFrom 5 = .ok (.putfield 18, 3) := by decide +kernel
theorem dX10_copyFrom_8 : decode cX10_copyFrom 8 = .ok (.aload_n 0, 1) := by decide +kernel
theorem dX10_copyFrom_9 : decode cX10_copyFrom 9 = .ok (.aload_n 1, 1) := by decide +kernel
theorem dX10_copyFrom_10 : decode cX10_copyFrom 10 = .ok (.getfield 22, 3) := by decide +kernel
theorem dX10_copyFrom_13 : decode cX10_copyFrom 13 = .ok (.putfield 22, 3) := by decide +kernel
theorem dX10_copyFrom_16 : decode cX10_copyFrom 16 = .ok (.aload_n 0, 1) := by decide +kernel
theorem dX10_copyFrom_17 : decode cX10_copyFrom 17 = .ok (.aload_n 1, 1) := by decide +kernel
theorem dX10_copyFrom_18 : decode cX10_copyFrom 18 = .ok (.getfield 25, 3) := by decide +kernel
theorem dX10_copyFrom_21 : decode cX10_copyFrom 21 = .ok (.putfield 25, 3) := by decide +kernel
theorem dX10_copyFrom_24 : decode cX10_copyFrom 24 = .ok (.aload_n 0, 1) := by decide +kernel
theorem dX10_copyFrom_25 : decode cX10_copyFrom 25 = .ok (.aload_n 1, 1) := by decide +kernel
theorem dX10_copyFrom_26 : decode cX10_copyFrom 26 = .ok (.getfield 28, 3) := by decide +kernel
theorem dX10_copyFrom_29 : decode cX10_copyFrom 29 = .ok (.putfield 28, 3) := by decide +kernel
theorem dX10_copyFrom_32 : decode cX10_copyFrom 32 = .ok (.aload_n 0, 1) := by decide +kernel
theorem dX10_copyFrom_33 : decode cX10_copyFrom 33 = .ok (.aload_n 1, 1) := by decide +kernel
theorem dX10_copyFrom_34 : decode cX10_copyFrom 34 = .ok (.getfield 31, 3) := by decide +kernel
theorem dX10_copyFrom_37 : decode cX10_copyFrom 37 = .ok (.putfield 31, 3) := by decide +kernel
theorem dX10_copyFrom_40 : decode cX10_copyFrom 40 = .ok (.aload_n 0, 1) := by decide +kernel
theorem dX10_copyFrom_41 : decode cX10_copyFrom 41 = .ok (.aload_n 1, 1) := by decide +kernel
theorem dX10_copyFrom_42 : decode cX10_copyFrom 42 = .ok (.getfield 15, 3) := by decide +kernel
theorem dX10_copyFrom_45 : decode cX10_copyFrom 45 = .ok (.putfield 15, 3) := by decide +kernel
theorem dX10_copyFrom_48 : decode cX10_copyFrom 48 = .ok (.aload_n 0, 1) := by decide +kernel
theorem dX10_copyFrom_49 : decode cX10_copyFrom 49 = .ok (.aload_n 1, 1) := by decide +kernel
theorem dX10_copyFrom_50 : decode cX10_copyFrom 50 = .ok (.getfield 35, 3) := by decide +kernel
theorem dX10_copyFrom_53 : decode cX10_copyFrom 53 = .ok (.putfield 35, 3) := by decide +kernel
theorem dX10_copyFrom_56 : decode cX10_copyFrom 56 = .ok (.return_, 1) := by decide +kernel
theorem dX11_init_0 : decode cX11_init 0 = .ok (.aload_n 0, 1) := by decide +kernel
theorem dX11_init_1 : decode cX11_init 1 = .ok (.invokespecial 1, 3) := by decide +kernel
theorem dX11_init_4 : decode cX11_init 4 = .ok (.aload_n 0, 1) := by decide +kernel
theorem dX11_init_5 : decode cX11_init 5 = .ok (.new 7, 3) := by decide +kernel
theorem dX11_init_8 : decode cX11_init 8 = .ok (.dup, 1) := by decide +kernel
theorem dX11_init_9 : decode cX11_init 9 = .ok (.invokespecial 9, 3) := by decide +kernel
theorem dX11_init_12 : decode cX11_init 12 = .ok (.putfield 10, 3) := by decide +kernel
theorem dX11_init_15 : decode cX11_init 15 = .ok (.aload_n 0, 1) := by decide +kernel
theorem dX11_init_16 : decode cX11_init 16 = .ok (.new 7, 3) := by decide +kernel
theorem dX11_init_19 : decode cX11_init 19 = .ok (.dup, 1) := by decide +kernel
theorem dX11_init_20 : decode cX11_init 20 = .ok (.invokespecial 9, 3) := by decide +kernel
theorem dX11_init_23 : decode cX11_init 23 = .ok (.putfield 16, 3) := by decide +kernel
theorem dX11_init_26 : decode cX11_init 26 = .ok (.aload_n 0, 1) := by decide +kernel
theorem dX11_init_27 : decode cX11_init 27 = .ok (.new 19, 3) := by decide +kernel
theorem dX11_init_30 : decode cX11_init 30 = .ok (.dup, 1) := by decide +kernel
theorem dX11_init_31 : decode cX11_init 31 = .ok (.aload_n 0, 1) := by decide +kernel
theorem dX11_init_32 : decode cX11_init 32 = .ok (.getfield 10, 3) := by decide +kernel
theorem dX11_init_35 : decode cX11_init 35 = .ok (.invokespecial 21, 3) := by decide +kernel
theorem dX11_init_38 : decode cX11_init 38 = .ok (.putfield 24, 3) := by decide +kernel
theorem dX11_init_41 : decode cX11_init 41 = .ok (.aload_n 0, 1) := by decide +kernel
theorem dX11_init_42 : decode cX11_init 42 = .ok (.new 28, 3) := by decide +kernel
theorem dX11_init_45 : decode cX11_init 45 = .ok (.dup, 1) := by decide +kernel
theorem dX11_init_46 : decode cX11_init 46 = .ok (.invokespecial 30, 3) := by decide +kernel
theorem dX11_init_49 : decode cX11_init 49 = .ok (.putfield 31, 3) := by decide +kernel
theorem dX11_init_52 : decode cX11_init 52 = .ok (.aload_n 0, 1) := by decide +kernel
theorem dX11_init_53 : decode cX11_init 53 = .ok (.new 35, 3) := by decide +kernel
theorem dX11_init_56 : decode cX11_init 56 = .ok (.dup, 1) := by decide +kernel
theorem dX11_init_57 : decode cX11_init 57 = .ok (.invokespecial 37, 3) := by decide +kernel
theorem dX11_init_60 : decode cX11_init 60 = .ok (.putfield 38, 3) := by decide +kernel
theorem dX11_init_63 : decode cX11_init 63 = .ok (.aload_n 0, 1) := by decide +kernel
theorem dX11_init_64 : decode cX11_init 64 = .ok (.new 35, 3) := by decide +kernel
theorem dX11_init_67 : decode cX11_init 67 = .ok (.dup, 1) := by decide +kernel
theorem dX11_init_68 : decode cX11_init 68 = .ok (.invokespecial 37, 3) := by decide +kernel
theorem dX11_init_71 : decode cX11_init 71 = .ok (.putfield 42, 3) := by decide +kernel
theorem dX11_init_74 : decode cX11_init 74 = .ok (.aload_n 0, 1) := by decide +kernel
theorem dX11_init_75 : decode cX11_init 75 = .ok (.new 45, 3) := by decide +kernel
theorem dX11_init_78 : decode cX11_init 78 = .ok (.dup, 1) := by decide +kernel
theorem dX11_init_79 : decode cX11_init 79 = .ok (.invokespecial 47, 3) := by decide +kernel
theorem dX11_init_82 : decode cX11_init 82 = .ok (.putfield 48, 3) := by decide +kernel
theorem dX11_init_85 : decode cX11_init 85 = .ok (.aload_n 0, 1) := by decide +kernel
theorem dX11_init_86 : decode cX11_init 86 = .ok (.iconst 2, 1) := by decide +kernel
theorem dX11_init_87 : decode cX11_init 87 = .ok (.anewarray 35, 3) := by decide +kernel
theorem dX11_init_90 : decode cX11_init 90 = .ok (.putfield 52, 3) := by decide +kernel
theorem dX11_init_93 : decode cX11_init 93 = .ok (.aload_n 0, 1) := by decide +kernel
theorem dX11_init_94 : decode cX11_init 94 = .ok (.iconst 2, 1) := by decide +kernel
theorem dX11_init_95 : decode cX11_init 95 = .ok (.newarray .boolean, 2) := by decide +kernel
theorem dX11_init_97 : decode cX11_init 97 = .ok (.putfield 56, 3) := by decide +kernel
theorem dX11_init_100 : decode cX11_init 100 = .ok (.iconst 0, 1) := by decide +kernel
theorem dX11_init_101 : decode cX11_init 101 = .ok (.istore_n 1, 1) := by decide +kernel
theorem dX11_init_102 : decode cX11_init 102 = .ok (.iload_n 1, 1) := by decide +kernel
theorem dX11_init_103 : decode cX11_init 103 = .ok (.aload_n 0, 1) := by decide +kernel
theorem dX11_init_104 : decode cX11_init 104 = .ok (.getfield 52, 3) := by decide +kernel
theorem dX11_init_107 : decode cX11_init 107 = .ok (.arraylength, 1) := by decide +kernel
theorem dX11_init_108 : decode cX11_init 108 = .ok (.if_icmp .ge 22, 3) := by decide +kernel
theorem dX11_init_111 : decode cX11_init 111 = .ok (.aload_n 0, 1) := by decide +kernel
theorem dX11_init_112 : decode cX11_init 112 = .ok (.getfield 52, 3) := by decide +kernel
theorem dX11_init_115 : decode cX11_init 115 = .ok (.iload_n 1, 1) := by decide +kernel
theorem dX11_init_116 : decode cX11_init 116 = .ok (.new 35, 3) := by decide +kernel
theorem dX11_init_119 : decode cX11_init 119 = .ok (.dup, 1) := by decide +kernel
theorem dX11_init_120 : decode cX11_init 120 = .ok (.invokespecial 37, 3) := by decide +kernel
theorem dX11_init_123 : decode cX11_init 123 = .ok (.aastore, 1) := by decide +kernel
theorem dX11_init_124 : decode cX11_init 124 = .ok (.iinc 1 1, 3) := by decide +kernel
theorem dX11_init_127 : decode cX11_init 127 = .ok (.goto (-25), 3) := by decide +kernel
theorem dX11_init_130 : decode cX11_init 130 = .ok (.aload_n 0, 1) := by decide +kernel
theorem dX11_init_131 : decode cX11_init 131 = .ok (.getfield 10, 3) := by decide +kernel
theorem dX11_init_134 : decode cX11_init 134 = .ok (.ldc 60, 2) := by decide +kernel
theorem dX11_init_136 : decode cX11_init 136 = .ok (.invokevirtual 62, 3) := by decide +kernel
theorem dX11_init_139 : decode cX11_init 139 = .ok (.aload_n 0, 1) := by decide +kernel
theorem dX11_init_140 : decode cX11_init 140 = .ok (.getfield 10, 3) := by decide +kernel
theorem dX11_init_143 : decode cX11_init 143 = .ok (.ldc 66, 2) := by decide +kernel
theorem dX11_init_145 : decode cX11_init 145 = .ok (.invokevirtual 62, 3) := by decide +kernel
theorem dX11_init_148 : decode cX11_init 148 = .ok (.aload_n 0, 1) := by decide +kernel
theorem dX11_init_149 : decode cX11_init 149 = .ok (.getfield 10, 3) := by decide +kernel
theorem dX11_init_152 : decode cX11_init 152 = .ok (.ldc 68, 2) := by decide +kernel
theorem dX11_init_154 : decode cX11_init 154 = .ok (.invokevirtual 62, 3) := by decide +kernel
theorem dX11_init_157 : decode cX11_init 157 = .ok (.aload_n 0, 1) := by decide +kernel
theorem dX11_init_158 : decode cX11_init 158 = .ok (.invokevirtual 70, 3) := by decide +kernel
theorem dX11_init_161 : decode cX11_init 161 = .ok (.return_, 1) := by decide +kernel
theorem dX11_append_0 : decode cX11_append 0 = .ok (.iload_n 1, 1) := by decide +kernel
theorem dX11_append_1 : decode cX11_append 1 = .ok (.invokestatic 73, 3) := by decide +kernel
theorem dX11_append_4 : decode cX11_append 4 = .ok (.iload_n 2, 1) := by decide +kernel
theorem dX11_append_5 : decode cX11_append 5 = .ok (.invokestatic 73, 3) := by decide +kernel
theorem dX11_append_8 : decode cX11_append 8 = .ok (.iadd, 1) := by decide +kernel
theorem dX11_append_9 : decode cX11_append 9 = .ok (.iload_n 3, 1) := by decide +kernel
theorem dX11_append_10 : decode cX11_append 10 = .ok (.invokestatic 73, 3) := by decide +kernel
theorem dX11_append_13 : decode cX11_append 13 = .ok (.iadd, 1) := by decide +kernel
theorem dX11_append_14 : decode cX11_append 14 = .ok (.iload 4, 2) := by decide +kernel
theorem dX11_append_16 : decode cX11_append 16 = .ok (.invokestatic 73, 3) := by decide +kernel
theorem dX11_append_19 : decode cX11_append 19 = .ok (.iadd, 1) := by decide +kernel
theorem dX11_append_20 : decode cX11_append 20 = .ok (.iload 5, 2) := by decide +kernel
theorem dX11_append_22 : decode cX11_append 22 = .ok (.invokestatic 73, 3) := by decide +kernel
theorem dX11_append_25 : decode cX11_append 25 = .ok (.iadd, 1) := by decide +kernel
theorem dX11_append_26 : decode cX11_append 26 = .ok (.istore 6, 2) := by decide +kernel
theorem dX11_append_28 : decode cX11_append 28 = .ok (.aload_n 0, 1) := by decide +kernel
theorem dX11_append_29 : decode cX11_append 29 = .ok (.getfield 10, 3) := by decide +kernel
theorem dX11_append_32 : decode cX11_append 32 = .ok (.getfield 77, 3) := by decide +kernel
theorem dX11_append_35 : decode cX11_append 35 = .ok (.iload 6, 2) := by decide +kernel
theorem dX11_append_37 : decode cX11_append 37 = .ok (.iadd, 1) := by decide +kernel
theorem dX11_append_38 : decode cX11_append 38 = .ok (.sipush 800, 3) := by decide +kernel
theorem dX11_append_41 : decode cX11_append 41 = .ok (.if_icmp .le 13, 3) := by decide +kernel
theorem dX11_append_44 : decode cX11_append 44 = .ok (.new 81, 3) := by decide +kernel
theorem dX11_append_47 : decode cX11_append 47 = .ok (.dup, 1) := by decide +kernel
theorem dX11_append_48 : decode cX11_append 48 = .ok (.ldc 83, 2) := by decide +kernel
theorem dX11_append_50 : decode cX11_append 50 = .ok (.invokespecial 85, 3) := by decide +kernel
theorem dX11_append_53 : decode cX11_append 53 = .ok (.athrow, 1) := by decide +kernel
theorem dX11_append_54 : decode cX11_append 54 = .ok (.aload_n 0, 1) := by decide +kernel
theorem dX11_append_55 : decode cX11_append 55 = .ok (.getfield 10, 3) := by decide +kernel
theorem dX11_append_58 : decode cX11_append 58 = .ok (.iload_n 1, 1) := by decide +kernel
theorem dX11_append_59 : decode cX11_append 59 = .ok (.invokevirtual 87, 3) := by decide +kernel
theorem dX11_append_62 : decode cX11_append 62 = .ok (.aload_n 0, 1) := by decide +kernel
theorem dX11_append_63 : decode cX11_append 63 = .ok (.getfield 10, 3) := by decide +kernel
theorem dX11_append_66 : decode cX11_append 66 = .ok (.iload_n 2, 1) := by decide +kernel
theorem dX11_append_67 : decode cX11_append 67 = .ok (.invokevirtual 87, 3) := by decide +kernel
theorem dX11_append_70 : decode cX11_append 70 = .ok (.aload_n 0, 1) := by decide +kernel
theorem dX11_append_71 : decode cX11_append 71 = .ok (.getfield 10, 3) := by decide +kernel
theorem dX11_append_74 : decode cX11_append 74 = .ok (.iload_n 3, 1) := by decide +kernel
theorem dX11_append_75 : decode cX11_append 75 = .ok (.invokevirtual 87, 3) := by decide +kernel
theorem dX11_append_78 : decode cX11_append 78 = .ok (.aload_n 0, 1) := by decide +kernel
theorem dX11_append_79 : decode cX11_append 79 = .ok (.getfield 10, 3) := by decide +kernel
theorem dX11_append_82 : decode cX11_append 82 = .ok (.iload 4, 2) := by decide +kernel
theorem dX11_append_84 : decode cX11_append 84 = .ok (.invokevirtual 87, 3) := by decide +kernel
theorem dX11_append_87 : decode cX11_append 87 = .ok (.aload_n 0, 1) := by decide +kernel
theorem dX11_append_88 : decode cX11_append 88 = .ok (.getfield 10, 3) := by decide +kernel
theorem dX11_append_91 : decode cX11_append 91 = .ok (.iload 5, 2) := by decide +kernel
theorem dX11_append_93 : decode cX11_append 93 = .ok (.invokevirtual 87, 3) := by decide +kernel
theorem dX11_append_96 : decode cX11_append 96 = .ok (.aload_n 0, 1) := by decide +kernel
theorem dX11_append_97 : decode cX11_append 97 = .ok (.getfield 10, 3) := by decide +kernel
theorem dX11_append_100 : decode cX11_append 100 = .ok (.getfield 77, 3) := by decide +kernel
theorem dX11_append_103 : decode cX11_append 103 = .ok (.ireturn, 1) := by decide +kernel
theorem dX11_truncate_0 : decode cX11_truncate 0 = .ok (.iload_n 1, 1) := by decide +kernel
theorem dX11_truncate_1 : decode cX11_truncate 1 = .ok (.iconst 0, 1) := by decide +kernel
theorem dX11_truncate_2 : decode cX11_truncate 2 = .ok (.aload_n 0, 1) := by decide +kernel
theorem dX11_truncate_3 : decode cX11_truncate 3 = .ok (.getfield 10, 3) := by decide +kernel
theorem dX11_truncate_6 : decode cX11_truncate 6 = .ok (.getfield 77, 3) := by decide +kernel
theorem dX11_truncate_9 : decode cX11_truncate 9 = .ok (.invokestatic 91, 3) := by decide +kernel
theorem dX11_truncate_12 : decode cX11_truncate 12 = .ok (.aload_n 0, 1) := by decide +kernel
theorem dX11_truncate_13 : decode cX11_truncate 13 = .ok (.getfield 10, 3) := by decide +kernel
theorem dX11_truncate_16 : decode cX11_truncate 16 = .ok (.iload_n 1, 1) := by decide +kernel
theorem dX11_truncate_17 : decode cX11_truncate 17 = .ok (.putfield 77, 3) := by decide +kernel
theorem dX11_truncate_20 : decode cX11_truncate 20 = .ok (.iload_n 1, 1) := by decide +kernel
theorem dX11_truncate_21 : decode cX11_truncate 21 = .ok (.ireturn, 1) := by decide +kernel
theorem dX11_load_0 : decode cX11_load 0 = .ok (.aload_n 0, 1) := by decide +kernel
theorem dX11_load_1 : decode cX11_load 1 = .ok (.invokevirtual 70, 3) := by decide +kernel
theorem dX11_load_4 : decode cX11_load 4 = .ok (.aload_n 0, 1) := by decide +kernel
theorem dX11_load_5 : decode cX11_load 5 = .ok (.getfield 24, 3) := by decide +kernel
theorem dX11_load_8 : decode cX11_load 8 = .ok (.getfield 95, 3) := by decide +kernel
theorem dX11_load_11 : decode cX11_load 11 = .ok (.ireturn, 1) := by decide +kernel
theorem dX11_runScript_0 : decode cX11_runScript 0 = .ok (.aload_n 0, 1) := by decide +kernel
theorem dX11_runScript_1 : decode cX11_runScript 1 = .ok (.getfield 24, 3) := by decide +kernel
theorem dX11_runScript_4 : decode cX11_runScript 4 = .ok (.invokevirtual 98, 3) := by decide +kernel
theorem dX11_runScript_7 : decode cX11_runScript 7 = .ok (.aload_n 0, 1) := by decide +kernel
theorem dX11_runScript_8 : decode cX11_runScript 8 = .ok (.getfield 31, 3) := by decide +kernel
theorem dX11_runScript_11 : decode cX11_runScript 11 = .ok (.aload_n 0, 1) := by decide +kernel
theorem dX11_runScript_12 : decode cX11_runScript 12 = .ok (.getfield 24, 3) := by decide +kernel
theorem dX11_runScript_15 : decode cX11_runScript 15 = .ok (.invokevirtual 101, 3) := by decide +kernel
theorem dX11_runScript_18 : decode cX11_runScript 18 = .ok (.aload_n 0, 1) := by decide +kernel
theorem dX11_runScript_19 : decode cX11_runScript 19 = .ok (.getfield 10, 3) := by decide +kernel
theorem dX11_runScript_22 : decode cX11_runScript 22 = .ok (.iconst 0, 1) := by decide +kernel
theorem dX11_runScript_23 : decode cX11_runScript 23 = .ok (.putfield 77, 3) := by decide +kernel
theorem dX11_runScript_26 : decode cX11_runScript 26 = .ok (.aload_n 0, 1) := by decide +kernel
theorem dX11_runScript_27 : decode cX11_runScript 27 = .ok (.getfield 24, 3) := by decide +kernel
theorem dX11_runScript_30 : decode cX11_runScript 30 = .ok (.invokevirtual 105, 3) := by decide +kernel
theorem dX11_runScript_33 : decode cX11_runScript 33 = .ok (.ifCond .eq 5, 3) := by decide +kernel
theorem dX11_runScript_36 : decode cX11_runScript 36 = .ok (.iconst (-1), 1) := by decide +kernel
theorem dX11_runScript_37 : decode cX11_runScript 37 = .ok (.ireturn, 1) := by decide +kernel
theorem dX11_runScript_38 : decode cX11_runScript 38 = .ok (.aload_n 0, 1) := by decide +kernel
theorem dX11_runScript_39 : decode cX11_runScript 39 = .ok (.getfield 48, 3) := by decide +kernel
theorem dX11_runScript_42 : decode cX11_runScript 42 = .ok (.aload_n 0, 1) := by decide +kernel
theorem dX11_runScript_43 : decode cX11_runScript 43 = .ok (.getfield 38, 3) := by decide +kernel
theorem dX11_runScript_46 : decode cX11_runScript 46 = .ok (.invokevirtual 109, 3) := by decide +kernel
theorem dX11_runScript_49 : decode cX11_runScript 49 = .ok (.iconst 0, 1) := by decide +kernel
theorem dX11_runScript_50 : decode cX11_runScript 50 = .ok (.istore_n 1, 1) := by decide +kernel
theorem dX11_runScript_51 : decode cX11_runScript 51 = .ok (.iload_n 1, 1) := by decide +kernel
theorem dX11_runScript_52 : decode cX11_runScript 52 = .ok (.aload_n 0, 1) := by decide +kernel
theorem dX11_runScript_53 : decode cX11_runScript 53 = .ok (.getfield 31, 3) := by decide +kernel
theorem dX11_runScript_56 : decode cX11_runScript 56 = .ok (.getfield 113, 3) := by decide +kernel
theorem dX11_runScript_59 : decode cX11_runScript 59 = .ok (.if_icmp .ge 27, 3) := by decide +kernel
theorem dX11_runScript_62 : decode cX11_runScript 62 = .ok (.aload_n 0, 1) := by decide +kernel
theorem dX11_runScript_63 : decode cX11_runScript 63 = .ok (.getfield 31, 3) := by decide +kernel
theorem dX11_runScript_66 : decode cX11_runScript 66 = .ok (.iload_n 1, 1) := by decide +kernel
theorem dX11_runScript_67 : decode cX11_runScript 67 = .ok (.invokevirtual 116, 3) := by decide +kernel
theorem dX11_runScript_70 : decode cX11_runScript 70 = .ok (.aload_n 0, 1) := by decide +kernel
theorem dX11_runScript_71 : decode cX11_runScript 71 = .ok (.getfield 38, 3) := by decide +kernel
theorem dX11_runScript_74 : decode cX11_runScript 74 = .ok (.invokevirtual 120, 3) := by decide +kernel
theorem dX11_runScript_77 : decode cX11_runScript 77 = .ok (.ifCond .eq 9, 3) := by decide +kernel
theorem dX11_runScript_80 : decode cX11_runScript 80 = .ok (.iinc 1 1, 3) := by decide +kernel
theorem dX11_runScript_83 : decode cX11_runScript 83 = .ok (.goto (-32), 3) := by decide +kernel
theorem dX11_runScript_86 : decode cX11_runScript 86 = .ok (.iload_n 1, 1) := by decide +kernel
theorem dX11_runScript_87 : decode cX11_runScript 87 = .ok (.ireturn, 1) := by decide +kernel
theorem dX11_errorCode_0 : decode cX11_errorCode 0 = .ok (.aload_n 0, 1) := by decide +kernel
theorem dX11_errorCode_1 : decode cX11_errorCode 1 = .ok (.getfield 24, 3) := by decide +kernel
theorem dX11_errorCode_4 : decode cX11_errorCode 4 = .ok (.getfield 95, 3) := by decide +kernel
theorem dX11_errorCode_7 : decode cX11_errorCode 7 = .ok (.ireturn, 1) := by decide +kernel
theorem dX11_errorPosition_0 : decode cX11_errorPosition 0 = .ok (.aload_n 0, 1) := by decide +kernel
theorem dX11_errorPosition_1 : decode cX11_errorPosition 1 = .ok (.getfield 24, 3) := by decide +kernel
theorem dX11_errorPosition_4 : decode cX11_errorPosition 4 = .ok (.getfield 126, 3) := by decide +kernel
theorem dX11_errorPosition_7 : decode cX11_errorPosition 7 = .ok (.ireturn, 1) := by decide +kernel
theorem dX11_day_0 : decode cX11_day 0 = .ok (.aload_n 0, 1) := by decide +kernel
theorem dX11_day_1 : decode cX11_day 1 = .ok (.getfield 38, 3) := by decide +kernel
theorem dX11_day_4 : decode cX11_day 4 = .ok (.getfield 129, 3) := by decide +kernel
theorem dX11_day_7 : decode cX11_day 7 = .ok (.ireturn, 1) := by decide +kernel
theorem dX11_bank_0 : decode cX11_bank 0 = .ok (.aload_n 0, 1) := by decide +kernel
theorem dX11_bank_1 : decode cX11_bank 1 = .ok (.getfield 38, 3) := by decide +kernel
theorem dX11_bank_4 : decode cX11_bank 4 = .ok (.getfield 132, 3) := by decide +kernel
theorem dX11_bank_7 : decode cX11_bank 7 = .ok (.ireturn, 1) := by decide +kernel
theorem dX11_wage_0 : decode cX11_wage 0 = .ok (.aload_n 0, 1) := by decide +kernel
theorem dX11_wage_1 : decode cX11_wage 1 = .ok (.getfield 38, 3) := by decide +kernel
theorem dX11_wage_4 : decode cX11_wage 4 = .ok (.getfield 135, 3) := by decide +kernel
theorem dX11_wage_7 : decode cX11_wage 7 = .ok (.ireturn, 1) := by decide +kernel
theorem dX11_basePrice_0 : decode cX11_basePrice 0 = .ok (.aload_n 0, 1) := by decide +kernel
theorem dX11_basePrice_1 : decode cX11_basePrice 1 = .ok (.getfield 38, 3) := by decide +kernel
theorem dX11_basePrice_4 : decode cX11_basePrice 4 = .ok (.getfield 138, 3) := by decide +kernel
theorem dX11_basePrice_7 : decode cX11_basePrice 7 = .ok (.ireturn, 1) := by decide +kernel
theorem dX11_retirementAge_0 : decode cX11_retirementAge 0 = .ok (.aload_n 0, 1) := by decide +kernel
theorem dX11_retirementAge_1 : decode cX11_retirementAge 1 = .ok (.getfield 38, 3) := by decide +kernel
theorem dX11_retirementAge_4 : decode cX11_retirementAge 4 = .ok (.getfield 141, 3) := by decide +kernel
theorem dX11_retirementAge_7 : decode cX11_retirementAge 7 = .ok (.ireturn, 1) := by decide +kernel
theorem dX11_boardCount_0 : decode cX11_boardCount 0 = .ok (.aload_n 0, 1) := by decide +kernel
theorem dX11_boardCount_1 : decode cX11_boardCount 1 = .ok (.getfield 38, 3) := by decide +kernel
theorem dX11_boardCount_4 : decode cX11_boardCount 4 = .ok (.getfield 144, 3) := by decide +kernel
theorem dX11_boardCount_7 : decode cX11_boardCount 7 = .ok (.ireturn, 1) := by decide +kernel
theorem dX11_armLength_0 : decode cX11_armLength 0 = .ok (.aload_n 0, 1) := by decide +kernel
theorem dX11_armLength_1 : decode cX11_armLength 1 = .ok (.iload_n 1, 1) := by decide +kernel
theorem dX11_armLength_2 : decode cX11_armLength 2 = .ok (.invokevirtual 147, 3) := by decide +kernel
theorem dX11_armLength_5 : decode cX11_armLength 5 = .ok (.getfield 151, 3) := by decide +kernel
theorem dX11_armLength_8 : decode cX11_armLength 8 = .ok (.ireturn, 1) := by decide +kernel
theorem dX11_stiffness_0 : decode cX11_stiffness 0 = .ok (.aload_n 0, 1) := by decide +kernel
theorem dX11_stiffness_1 : decode cX11_stiffness 1 = .ok (.iload_n 1, 1) := by decide +kernel
theorem dX11_stiffness_2 : decode cX11_stiffness 2 = .ok (.invokevirtual 147, 3) := by decide +kernel
theorem dX11_stiffness_5 : decode cX11_stiffness 5 = .ok (.getfield 156, 3) := by decide +kernel
theorem dX11_stiffness_8 : decode cX11_stiffness 8 = .ok (.ireturn, 1) := by decide +kernel
theorem dX11_torque_0 : decode cX11_torque 0 = .ok (.aload_n 0, 1) := by decide +kernel
theorem dX11_torque_1 : decode cX11_torque 1 = .ok (.getfield 38, 3) := by decide +kernel
theorem dX11_torque_4 : decode cX11_torque 4 = .ok (.aload_n 0, 1) := by decide +kernel
theorem dX11_torque_5 : decode cX11_torque 5 = .ok (.iload_n 1, 1) := by decide +kernel
theorem dX11_torque_6 : decode cX11_torque 6 = .ok (.invokevirtual 147, 3) := by decide +kernel
theorem dX11_torque_9 : decode cX11_torque 9 = .ok (.invokevirtual 159, 3) := by decide +kernel
theorem dX11_torque_12 : decode cX11_torque 12 = .ok (.ireturn, 1) := by decide +kernel
theorem dX11_tilt_0 : decode cX11_tilt 0 = .ok (.aload_n 0, 1) := by decide +kernel
theorem dX11_tilt_1 : decode cX11_tilt 1 = .ok (.iload_n 1, 1) := by decide +kernel
theorem dX11_tilt_2 : decode cX11_tilt 2 = .ok (.invokevirtual 147, 3) := by decide +kernel
theorem dX11_tilt_5 : decode cX11_tilt 5 = .ok (.astore_n 2, 1) := by decide +kernel
theorem dX11_tilt_6 : decode cX11_tilt 6 = .ok (.aload_n 2, 1) := by decide +kernel
theorem dX11_tilt_7 : decode cX11_tilt 7 = .ok (.aload_n 0, 1) := by decide +kernel
theorem dX11_tilt_8 : decode cX11_tilt 8 = .ok (.getfield 38, 3) := by decide +kernel
theorem dX11_tilt_11 : decode cX11_tilt 11 = .ok (.aload_n 2, 1) := by decide +kernel
theorem dX11_tilt_12 : decode cX11_tilt 12 = .ok (.invokevirtual 159, 3) := by decide +kernel
theorem dX11_tilt_15 : decode cX11_tilt 15 = .ok (.invokevirtual 163, 3) := by decide +kernel
theorem dX11_tilt_18 : decode cX11_tilt 18 = .ok (.ireturn, 1) := by decide +kernel
theorem dX11_isBalanced_0 : decode cX11_isBalanced 0 = .ok (.aload_n 0, 1) := by decide +kernel
theorem dX11_isBalanced_1 : decode cX11_isBalanced 1 = .ok (.getfield 38, 3) := by decide +kernel
theorem dX11_isBalanced_4 : decode cX11_isBalanced 4 = .ok (.aload_n 0, 1) := by decide +kernel
theorem dX11_isBalanced_5 : decode cX11_isBalanced 5 = .ok (.iload_n 1, 1) := by decide +kernel
theorem dX11_isBalanced_6 : decode cX11_isBalanced 6 = .ok (.invokevirtual 147, 3) := by decide +kernel
theorem dX11_isBalanced_9 : decode cX11_isBalanced 9 = .ok (.invokevirtual 159, 3) := by decide +kernel
theorem dX11_isBalanced_12 : decode cX11_isBalanced 12 = .ok (.ifCond .ne 7, 3) := by decide +kernel
theorem dX11_isBalanced_15 : decode cX11_isBalanced 15 = .ok (.iconst 1, 1) := by decide +kernel
theorem dX11_isBalanced_16 : decode cX11_isBalanced 16 = .ok (.goto 4, 3) := by decide +kernel
theorem dX11_isBalanced_19 : decode cX11_isBalanced 19 = .ok (.iconst 0, 1) := by decide +kernel
theorem dX11_isBalanced_20 : decode cX11_isBalanced 20 = .ok (.ireturn, 1) := by decide +kernel
theorem dX11_seatOwner_0 : decode cX11_seatOwner 0 = .ok (.aload_n 0, 1) := by decide +kernel
theorem dX11_seatOwner_1 : decode cX11_seatOwner 1 = .ok (.iload_n 1, 1) := by decide +kernel
theorem dX11_seatOwner_2 : decode cX11_seatOwner 2 = .ok (.iload_n 2, 1) := by decide +kernel
theorem dX11_seatOwner_3 : decode cX11_seatOwner 3 = .ok (.invokevirtual 166, 3) := by decide +kernel
theorem dX11_seatOwner_6 : decode cX11_seatOwner 6 = .ok (.iload_n 2, 1) := by decide +kernel
theorem dX11_seatOwner_7 : decode cX11_seatOwner 7 = .ok (.invokevirtual 170, 3) := by decide +kernel
theorem dX11_seatOwner_10 : decode cX11_seatOwner 10 = .ok (.ireturn, 1) := by decide +kernel
theorem dX11_seatHeight_0 : decode cX11_seatHeight 0 = .ok (.aload_n 0, 1) := by decide +kernel
theorem dX11_seatHeight_1 : decode cX11_seatHeight 1 = .ok (.getfield 38, 3) := by decide +kernel
theorem dX11_seatHeight_4 : decode cX11_seatHeight 4 = .ok (.aload_n 0, 1) := by decide +kernel
theorem dX11_seatHeight_5 : decode cX11_seatHeight 5 = .ok (.iload_n 1, 1) := by decide +kernel
theorem dX11_seatHeight_6 : decode cX11_seatHeight 6 = .ok (.iload_n 2, 1) := by decide +kernel
theorem dX11_seatHeight_7 : decode cX11_seatHeight 7 = .ok (.invokevirtual 166, 3) := by decide +kernel
theorem dX11_seatHeight_10 : decode cX11_seatHeight 10 = .ok (.iload_n 2, 1) := by decide +kernel
theorem dX11_seatHeight_11 : decode cX11_seatHeight 11 = .ok (.invokevirtual 173, 3) := by decide +kernel
theorem dX11_seatHeight_14 : decode cX11_seatHeight 14 = .ok (.ireturn, 1) := by decide +kernel
theorem dX11_seatPrice_0 : decode cX11_seatPrice 0 = .ok (.aload_n 0, 1) := by decide +kernel
theorem dX11_seatPrice_1 : decode cX11_seatPrice 1 = .ok (.getfield 38, 3) := by decide +kernel
theorem dX11_seatPrice_4 : decode cX11_seatPrice 4 = .ok (.aload_n 0, 1) := by decide +kernel
theorem dX11_seatPrice_5 : decode cX11_seatPrice 5 = .ok (.iload_n 1, 1) := by decide +kernel
theorem dX11_seatPrice_6 : decode cX11_seatPrice 6 = .ok (.iload_n 2, 1) := by decide +kernel
theorem dX11_seatPrice_7 : decode cX11_seatPrice 7 = .ok (.invokevirtual 166, 3) := by decide +kernel
theorem dX11_seatPrice_10 : decode cX11_seatPrice 10 = .ok (.iload_n 2, 1) := by decide +kernel
theorem dX11_seatPrice_11 : decode cX11_seatPrice 11 = .ok (.invokevirtual 177, 3) := by decide +kernel
theorem dX11_seatPrice_14 : decode cX11_seatPrice 14 = .ok (.ireturn, 1) := by decide +kernel
theorem dX11_balancingSeat_0 : decode cX11_balancingSeat 0 = .ok (.aload_n 0, 1) := by decide +kernel
theorem dX11_balancingSeat_1 : decode cX11_balancingSeat 1 = .ok (.iload_n 1, 1) := by decide +kernel
theorem dX11_balancingSeat_2 : decode cX11_balancingSeat 2 = .ok (.invokevirtual 147, 3) := by decide +kernel
theorem dX11_balancingSeat_5 : decode cX11_balancingSeat 5 = .ok (.astore_n 3, 1) := by decide +kernel
theorem dX11_balancingSeat_6 : decode cX11_balancingSeat 6 = .ok (.iload_n 2, 1) := by decide +kernel
theorem dX11_balancingSeat_7 : decode cX11_balancingSeat 7 = .ok (.iconst 1, 1) := by decide +kernel
theorem dX11_balancingSeat_8 : decode cX11_balancingSeat 8 = .ok (.bipush 99, 2) := by decide +kernel
theorem dX11_balancingSeat_10 : decode cX11_balancingSeat 10 = .ok (.invokestatic 91, 3) := by decide +kernel
theorem dX11_balancingSeat_13 : decode cX11_balancingSeat 13 = .ok (.aload_n 0, 1) := by decide +kernel
theorem dX11_balancingSeat_14 : decode cX11_balancingSeat 14 = .ok (.getfield 38, 3) := by decide +kernel
theorem dX11_balancingSeat_17 : decode cX11_balancingSeat 17 = .ok (.aload_n 3, 1) := by decide +kernel
theorem dX11_balancingSeat_18 : decode cX11_balancingSeat 18 = .ok (.iload_n 2, 1) := by decide +kernel
theorem dX11_balancingSeat_19 : decode cX11_balancingSeat 19 = .ok (.invokevirtual 180, 3) := by decide +kernel
theorem dX11_balancingSeat_22 : decode cX11_balancingSeat 22 = .ok (.ireturn, 1) := by decide +kernel
theorem dX11_traderCount_0 : decode cX11_traderCount 0 = .ok (.aload_n 0, 1) := by decide +kernel
theorem dX11_traderCount_1 : decode cX11_traderCount 1 = .ok (.getfield 38, 3) := by decide +kernel
theorem dX11_traderCount_4 : decode cX11_traderCount 4 = .ok (.getfield 183, 3) := by decide +kernel
theorem dX11_traderCount_7 : decode cX11_traderCount 7 = .ok (.ireturn, 1) := by decide +kernel
theorem dX11_findTrader_0 : decode cX11_findTrader 0 = .ok (.aload_n 0, 1) := by decide +kernel
theorem dX11_findTrader_1 : decode cX11_findTrader 1 = .ok (.getfield 38, 3) := by decide +kernel
theorem dX11_findTrader_4 : decode cX11_findTrader 4 = .ok (.aload_n 0, 1) := by decide +kernel
theorem dX11_findTrader_5 : decode cX11_findTrader 5 = .ok (.getfield 10, 3) := by decide +kernel
theorem dX11_findTrader_8 : decode cX11_findTrader 8 = .ok (.iconst 0, 1) := by decide +kernel
theorem dX11_findTrader_9 : decode cX11_findTrader 9 = .ok (.aload_n 0, 1) := by decide +kernel
theorem dX11_findTrader_10 : decode cX11_findTrader 10 = .ok (.getfield 10, 3) := by decide +kernel
theorem dX11_findTrader_13 : decode cX11_findTrader 13 = .ok (.getfield 77, 3) := by decide +kernel
theorem dX11_findTrader_16 : decode cX11_findTrader 16 = .ok (.invokevirtual 186, 3) := by decide +kernel
theorem dX11_findTrader_19 : decode cX11_findTrader 19 = .ok (.invokevirtual 190, 3) := by decide +kernel
theorem dX11_findTrader_22 : decode cX11_findTrader 22 = .ok (.astore_n 1, 1) := by decide +kernel
theorem dX11_findTrader_23 : decode cX11_findTrader 23 = .ok (.aload_n 1, 1) := by decide +kernel
theorem dX11_findTrader_24 : decode cX11_findTrader 24 = .ok (.ifnonnull 7, 3) := by decide +kernel
theorem dX11_findTrader_27 : decode cX11_findTrader 27 = .ok (.iconst (-1), 1) := by decide +kernel
theorem dX11_findTrader_28 : decode cX11_findTrader 28 = .ok (.goto 7, 3) := by decide +kernel
theorem dX11_findTrader_31 : decode cX11_findTrader 31 = .ok (.aload_n 1, 1) := by decide +kernel
theorem dX11_findTrader_32 : decode cX11_findTrader 32 = .ok (.getfield 194, 3) := by decide +kernel
theorem dX11_findTrader_35 : decode cX11_findTrader 35 = .ok (.ireturn, 1) := by decide +kernel
theorem dX11_nameLetter_0 : decode cX11_nameLetter 0 = .ok (.aload_n 0, 1) := by decide +kernel
theorem dX11_nameLetter_1 : decode cX11_nameLetter 1 = .ok (.iload_n 1, 1) := by decide +kernel
theorem dX11_nameLetter_2 : decode cX11_nameLetter 2 = .ok (.invokevirtual 199, 3) := by decide +kernel
theorem dX11_nameLetter_5 : decode cX11_nameLetter 5 = .ok (.getfield 203, 3) := by decide +kernel
theorem dX11_nameLetter_8 : decode cX11_nameLetter 8 = .ok (.iload_n 2, 1) := by decide +kernel
theorem dX11_nameLetter_9 : decode cX11_nameLetter 9 = .ok (.invokestatic 207, 3) := by decide +kernel
theorem dX11_nameLetter_12 : decode cX11_nameLetter 12 = .ok (.ireturn, 1) := by decide +kernel
theorem dX11_weightOf_0 : decode cX11_weightOf 0 = .ok (.aload_n 0, 1) := by decide +kernel
theorem dX11_weightOf_1 : decode cX11_weightOf 1 = .ok (.iload_n 1, 1) := by decide +kernel
theorem dX11_weightOf_2 : decode cX11_weightOf 2 = .ok (.invokevirtual 199, 3) := by decide +kernel
theorem dX11_weightOf_5 : decode cX11_weightOf 5 = .ok (.getfield 211, 3) := by decide +kernel
theorem dX11_weightOf_8 : decode cX11_weightOf 8 = .ok (.ireturn, 1) := by decide +kernel
theorem dX11_purseOf_0 : decode cX11_purseOf 0 = .ok (.aload_n 0, 1) := by decide +kernel
theorem dX11_purseOf_1 : decode cX11_purseOf 1 = .ok (.iload_n 1, 1) := by decide +kernel
theorem dX11_purseOf_2 : decode cX11_purseOf 2 = .ok (.invokevirtual 199, 3) := by decide +kernel
theorem dX11_purseOf_5 : decode cX11_purseOf 5 = .ok (.getfield 214, 3) := by decide +kernel
theorem dX11_purseOf_8 : decode cX11_purseOf 8 = .ok (.ireturn, 1) := by decide +kernel
theorem dX11_ageOf_0 : decode cX11_ageOf 0 = .ok (.aload_n 0, 1) := by decide +kernel
theorem dX11_ageOf_1 : decode cX11_ageOf 1 = .ok (.iload_n 1, 1) := by decide +kernel
theorem dX11_ageOf_2 : decode cX11_ageOf 2 = .ok (.invokevirtual 199, 3) := by decide +kernel
theorem dX11_ageOf_5 : decode cX11_ageOf 5 = .ok (.getfield 217, 3) := by decide +kernel
theorem dX11_ageOf_8 : decode cX11_ageOf 8 = .ok (.ireturn, 1) := by decide +kernel
theorem dX11_isPresent_0 : decode cX11_isPresent 0 = .ok (.aload_n 0, 1) := by decide +kernel
theorem dX11_isPresent_1 : decode cX11_isPresent 1 = .ok (.iload_n 1, 1) := by decide +kernel
theorem dX11_isPresent_2 : decode cX11_isPresent 2 = .ok (.invokevirtual 199, 3) := by decide +kernel
theorem dX11_isPresent_5 : decode cX11_isPresent 5 = .ok (.getfield 220, 3) := by decide +kernel
theorem dX11_isPresent_8 : decode cX11_isPresent 8 = .ok (.ireturn, 1) := by decide +kernel
theorem dX11_boardOf_0 : decode cX11_boardOf 0 = .ok (.aload_n 0, 1) := by decide +kernel
theorem dX11_boardOf_1 : decode cX11_boardOf 1 = .ok (.iload_n 1, 1) := by decide +kernel
theorem dX11_boardOf_2 : decode cX11_boardOf 2 = .ok (.invokevirtual 199, 3) := by decide +kernel
theorem dX11_boardOf_5 : decode cX11_boardOf 5 = .ok (.getfield 224, 3) := by decide +kernel
theorem dX11_boardOf_8 : decode cX11_boardOf 8 = .ok (.ireturn, 1) := by decide +kernel
theorem dX11_positionOf_0 : decode cX11_positionOf 0 = .ok (.aload_n 0, 1) := by decide +kernel
theorem dX11_positionOf_1 : decode cX11_positionOf 1 = .ok (.iload_n 1, 1) := by decide +kernel
theorem dX11_positionOf_2 : decode cX11_positionOf 2 = .ok (.invokevirtual 199, 3) := by decide +kernel
theorem dX11_positionOf_5 : decode cX11_positionOf 5 = .ok (.getfield 227, 3) := by decide +kernel
theorem dX11_positionOf_8 : decode cX11_positionOf 8 = .ok (.ireturn, 1) := by decide +kernel
theorem dX11_incomeOf_0 : decode cX11_incomeOf 0 = .ok (.aload_n 0, 1) := by decide +kernel
theorem dX11_incomeOf_1 : decode cX11_incomeOf 1 = .ok (.getfield 38, 3) := by decide +kernel
theorem dX11_incomeOf_4 : decode cX11_incomeOf 4 = .ok (.aload_n 0, 1) := by decide +kernel
theorem dX11_incomeOf_5 : decode cX11_incomeOf 5 = .ok (.iload_n 1, 1) := by decide +kernel
theorem dX11_incomeOf_6 : decode cX11_incomeOf 6 = .ok (.invokevirtual 199, 3) := by decide +kernel
theorem dX11_incomeOf_9 : decode cX11_incomeOf 9 = .ok (.invokevirtual 230, 3) := by decide +kernel
theorem dX11_incomeOf_12 : decode cX11_incomeOf 12 = .ok (.ireturn, 1) := by decide +kernel
theorem dX11_richestAt_0 : decode cX11_richestAt 0 = .ok (.aload_n 0, 1) := by decide +kernel
theorem dX11_richestAt_1 : decode cX11_richestAt 1 = .ok (.getfield 38, 3) := by decide +kernel
theorem dX11_richestAt_4 : decode cX11_richestAt 4 = .ok (.iload_n 1, 1) := by decide +kernel
theorem dX11_richestAt_5 : decode cX11_richestAt 5 = .ok (.invokevirtual 234, 3) := by decide +kernel
theorem dX11_richestAt_8 : decode cX11_richestAt 8 = .ok (.ireturn, 1) := by decide +kernel
theorem dX11_reasonAgainstSeat_0 : decode cX11_reasonAgainstSeat 0 = .ok (.aload_n 0, 1) := by decide +kernel
theorem dX11_reasonAgainstSeat_1 : decode cX11_reasonAgainstSeat 1 = .ok (.iload_n 1, 1) := by decide +kernel
theorem dX11_reasonAgainstSeat_2 : decode cX11_reasonAgainstSeat 2 = .ok (.invokevirtual 199, 3) := by decide +kernel
theorem dX11_reasonAgainstSeat_5 : decode cX11_reasonAgainstSeat 5 = .ok (.astore 4, 2) := by decide +kernel
theorem dX11_reasonAgainstSeat_7 : decode cX11_reasonAgainstSeat 7 = .ok (.aload_n 0, 1) := by decide +kernel
theorem dX11_reasonAgainstSeat_8 : decode cX11_reasonAgainstSeat 8 = .ok (.getfield 38, 3) := by decide +kernel
theorem dX11_reasonAgainstSeat_11 : decode cX11_reasonAgainstSeat 11 = .ok (.aload 4, 2) := by decide +kernel
theorem dX11_reasonAgainstSeat_13 : decode cX11_reasonAgainstSeat 13 = .ok (.aload_n 0, 1) := by decide +kernel
theorem dX11_reasonAgainstSeat_14 : decode cX11_reasonAgainstSeat 14 = .ok (.iload_n 2, 1) := by decide +kernel
theorem dX11_reasonAgainstSeat_15 : decode cX11_reasonAgainstSeat 15 = .ok (.iload_n 3, 1) := by decide +kernel
theorem dX11_reasonAgainstSeat_16 : decode cX11_reasonAgainstSeat 16 = .ok (.invokevirtual 166, 3) := by decide +kernel
theorem dX11_reasonAgainstSeat_19 : decode cX11_reasonAgainstSeat 19 = .ok (.iload_n 3, 1) := by decide +kernel
theorem dX11_reasonAgainstSeat_20 : decode cX11_reasonAgainstSeat 20 = .ok (.invokevirtual 237, 3) := by decide +kernel
theorem dX11_reasonAgainstSeat_23 : decode cX11_reasonAgainstSeat 23 = .ok (.ireturn, 1) := by decide +kernel
theorem dX11_reasonAgainstSale_0 : decode cX11_reasonAgainstSale 0 = .ok (.aload_n 0, 1) := by decide +kernel
theorem dX11_reasonAgainstSale_1 : decode cX11_reasonAgainstSale 1 = .ok (.iload_n 1, 1) := by decide +kernel
theorem dX11_reasonAgainstSale_2 : decode cX11_reasonAgainstSale 2 = .ok (.invokevirtual 199, 3) := by decide +kernel
theorem dX11_reasonAgainstSale_5 : decode cX11_reasonAgainstSale 5 = .ok (.astore 4, 2) := by decide +kernel
theorem dX11_reasonAgainstSale_7 : decode cX11_reasonAgainstSale 7 = .ok (.aload_n 0, 1) := by decide +kernel
theorem dX11_reasonAgainstSale_8 : decode cX11_reasonAgainstSale 8 = .ok (.iload_n 2, 1) := by decide +kernel
theorem dX11_reasonAgainstSale_9 : decode cX11_reasonAgainstSale 9 = .ok (.invokevirtual 199, 3) := by decide +kernel
theorem dX11_reasonAgainstSale_12 : decode cX11_reasonAgainstSale 12 = .ok (.astore 5, 2) := by decide +kernel
theorem dX11_reasonAgainstSale_14 : decode cX11_reasonAgainstSale 14 = .ok (.iload_n 1, 1) := by decide +kernel
theorem dX11_reasonAgainstSale_15 : decode cX11_reasonAgainstSale 15 = .ok (.iload_n 2, 1) := by decide +kernel
theorem dX11_reasonAgainstSale_16 : decode cX11_reasonAgainstSale 16 = .ok (.invokestatic 241, 3) := by decide +kernel
theorem dX11_reasonAgainstSale_19 : decode cX11_reasonAgainstSale 19 = .ok (.iload_n 3, 1) := by decide +kernel
theorem dX11_reasonAgainstSale_20 : decode cX11_reasonAgainstSale 20 = .ok (.iconst 1, 1) := by decide +kernel
theorem dX11_reasonAgainstSale_21 : decode cX11_reasonAgainstSale 21 = .ok (.bipush 50, 2) := by decide +kernel
theorem dX11_reasonAgainstSale_23 : decode cX11_reasonAgainstSale 23 = .ok (.invokestatic 91, 3) := by decide +kernel
theorem dX11_reasonAgainstSale_26 : decode cX11_reasonAgainstSale 26 = .ok (.aload_n 0, 1) := by decide +kernel
theorem dX11_reasonAgainstSale_27 : decode cX11_reasonAgainstSale 27 = .ok (.getfield 38, 3) := by decide +kernel
theorem dX11_reasonAgainstSale_30 : decode cX11_reasonAgainstSale 30 = .ok (.aload 4, 2) := by decide +kernel
theorem dX11_reasonAgainstSale_32 : decode cX11_reasonAgainstSale 32 = .ok (.aload 5, 2) := by decide +kernel
theorem dX11_reasonAgainstSale_34 : decode cX11_reasonAgainstSale 34 = .ok (.iload_n 3, 1) := by decide +kernel
theorem dX11_reasonAgainstSale_35 : decode cX11_reasonAgainstSale 35 = .ok (.invokevirtual 245, 3) := by decide +kernel
theorem dX11_reasonAgainstSale_38 : decode cX11_reasonAgainstSale 38 = .ok (.ireturn, 1) := by decide +kernel
theorem dX11_reasonAgainstSwap_0 : decode cX11_reasonAgainstSwap 0 = .ok (.aload_n 0, 1) := by decide +kernel
theorem dX11_reasonAgainstSwap_1 : decode cX11_reasonAgainstSwap 1 = .ok (.iload_n 1, 1) := by decide +kernel
theorem dX11_reasonAgainstSwap_2 : decode cX11_reasonAgainstSwap 2 = .ok (.invokevirtual 199, 3) := by decide +kernel
theorem dX11_reasonAgainstSwap_5 : decode cX11_reasonAgainstSwap 5 = .ok (.astore_n 3, 1) := by decide +kernel
theorem dX11_reasonAgainstSwap_6 : decode cX11_reasonAgainstSwap 6 = .ok (.aload_n 0, 1) := by decide +kernel
theorem dX11_reasonAgainstSwap_7 : decode cX11_reasonAgainstSwap 7 = .ok (.iload_n 2, 1) := by decide +kernel
theorem dX11_reasonAgainstSwap_8 : decode cX11_reasonAgainstSwap 8 = .ok (.invokevirtual 199, 3) := by decide +kernel
theorem dX11_reasonAgainstSwap_11 : decode cX11_reasonAgainstSwap 11 = .ok (.astore 4, 2) := by decide +kernel
theorem dX11_reasonAgainstSwap_13 : decode cX11_reasonAgainstSwap 13 = .ok (.iload_n 1, 1) := by decide +kernel
theorem dX11_reasonAgainstSwap_14 : decode cX11_reasonAgainstSwap 14 = .ok (.iload_n 2, 1) := by decide +kernel
theorem dX11_reasonAgainstSwap_15 : decode cX11_reasonAgainstSwap 15 = .ok (.invokestatic 241, 3) := by decide +kernel
theorem dX11_reasonAgainstSwap_18 : decode cX11_reasonAgainstSwap 18 = .ok (.aload_n 0, 1) := by decide +kernel
theorem dX11_reasonAgainstSwap_19 : decode cX11_reasonAgainstSwap 19 = .ok (.getfield 38, 3) := by decide +kernel
theorem dX11_reasonAgainstSwap_22 : decode cX11_reasonAgainstSwap 22 = .ok (.aload_n 3, 1) := by decide +kernel
theorem dX11_reasonAgainstSwap_23 : decode cX11_reasonAgainstSwap 23 = .ok (.aload 4, 2) := by decide +kernel
theorem dX11_reasonAgainstSwap_25 : decode cX11_reasonAgainstSwap 25 = .ok (.invokevirtual 249, 3) := by decide +kernel
theorem dX11_reasonAgainstSwap_28 : decode cX11_reasonAgainstSwap 28 = .ok (.ireturn, 1) := by decide +kernel
theorem dX11_weightUnitPrice_0 : decode cX11_weightUnitPrice 0 = .ok (.aload_n 0, 1) := by decide +kernel
theorem dX11_weightUnitPrice_1 : decode cX11_weightUnitPrice 1 = .ok (.iload_n 1, 1) := by decide +kernel
theorem dX11_weightUnitPrice_2 : decode cX11_weightUnitPrice 2 = .ok (.invokevirtual 199, 3) := by decide +kernel
theorem dX11_weightUnitPrice_5 : decode cX11_weightUnitPrice 5 = .ok (.astore_n 3, 1) := by decide +kernel
theorem dX11_weightUnitPrice_6 : decode cX11_weightUnitPrice 6 = .ok (.aload_n 0, 1) := by decide +kernel
theorem dX11_weightUnitPrice_7 : decode cX11_weightUnitPrice 7 = .ok (.iload_n 2, 1) := by decide +kernel
theorem dX11_weightUnitPrice_8 : decode cX11_weightUnitPrice 8 = .ok (.invokevirtual 199, 3) := by decide +kernel
theorem dX11_weightUnitPrice_11 : decode cX11_weightUnitPrice 11 = .ok (.astore 4, 2) := by decide +kernel
theorem dX11_weightUnitPrice_13 : decode cX11_weightUnitPrice 13 = .ok (.aload_n 3, 1) := by decide +kernel
theorem dX11_weightUnitPrice_14 : decode cX11_weightUnitPrice 14 = .ok (.invokestatic 253, 3) := by decide +kernel
theorem dX11_weightUnitPrice_17 : decode cX11_weightUnitPrice 17 = .ok (.aload 4, 2) := by decide +kernel
theorem dX11_weightUnitPrice_19 : decode cX11_weightUnitPrice 19 = .ok (.invokestatic 253, 3) := by decide +kernel
theorem dX11_weightUnitPrice_22 : decode cX11_weightUnitPrice 22 = .ok (.aload_n 0, 1) := by decide +kernel
theorem dX11_weightUnitPrice_23 : decode cX11_weightUnitPrice 23 = .ok (.getfield 38, 3) := by decide +kernel
theorem dX11_weightUnitPrice_26 : decode cX11_weightUnitPrice 26 = .ok (.aload_n 3, 1) := by decide +kernel
theorem dX11_weightUnitPrice_27 : decode cX11_weightUnitPrice 27 = .ok (.aload 4, 2) := by decide +kernel
theorem dX11_weightUnitPrice_29 : decode cX11_weightUnitPrice 29 = .ok (.invokevirtual 257, 3) := by decide +kernel
theorem dX11_weightUnitPrice_32 : decode cX11_weightUnitPrice 32 = .ok (.ireturn, 1) := by decide +kernel
theorem dX11_bestSeat_0 : decode cX11_bestSeat 0 = .ok (.aload_n 0, 1) := by decide +kernel
theorem dX11_bestSeat_1 : decode cX11_bestSeat 1 = .ok (.iload_n 1, 1) := by decide +kernel
theorem dX11_bestSeat_2 : decode cX11_bestSeat 2 = .ok (.invokevirtual 199, 3) := by decide +kernel
theorem dX11_bestSeat_5 : decode cX11_bestSeat 5 = .ok (.astore_n 3, 1) := by decide +kernel
theorem dX11_bestSeat_6 : decode cX11_bestSeat 6 = .ok (.aload_n 0, 1) := by decide +kernel
theorem dX11_bestSeat_7 : decode cX11_bestSeat 7 = .ok (.getfield 38, 3) := by decide +kernel
theorem dX11_bestSeat_10 : decode cX11_bestSeat 10 = .ok (.aload_n 3, 1) := by decide +kernel
theorem dX11_bestSeat_11 : decode cX11_bestSeat 11 = .ok (.aload_n 0, 1) := by decide +kernel
theorem dX11_bestSeat_12 : decode cX11_bestSeat 12 = .ok (.iload_n 2, 1) := by decide +kernel
theorem dX11_bestSeat_13 : decode cX11_bestSeat 13 = .ok (.invokevirtual 147, 3) := by decide +kernel
theorem dX11_bestSeat_16 : decode cX11_bestSeat 16 = .ok (.invokevirtual 260, 3) := by decide +kernel
theorem dX11_bestSeat_19 : decode cX11_bestSeat 19 = .ok (.ireturn, 1) := by decide +kernel
theorem dX11_seatsSold_0 : decode cX11_seatsSold 0 = .ok (.aload_n 0, 1) := by decide +kernel
theorem dX11_seatsSold_1 : decode cX11_seatsSold 1 = .ok (.getfield 38, 3) := by decide +kernel
theorem dX11_seatsSold_4 : decode cX11_seatsSold 4 = .ok (.getfield 264, 3) := by decide +kernel
theorem dX11_seatsSold_7 : decode cX11_seatsSold 7 = .ok (.ireturn, 1) := by decide +kernel
theorem dX11_weightSold_0 : decode cX11_weightSold 0 = .ok (.aload_n 0, 1) := by decide +kernel
theorem dX11_weightSold_1 : decode cX11_weightSold 1 = .ok (.getfield 38, 3) := by decide +kernel
theorem dX11_weightSold_4 : decode cX11_weightSold 4 = .ok (.getfield 267, 3) := by decide +kernel
theorem dX11_weightSold_7 : decode cX11_weightSold 7 = .ok (.ireturn, 1) := by decide +kernel
theorem dX11_fallCount_0 : decode cX11_fallCount 0 = .ok (.aload_n 0, 1) := by decide +kernel
theorem dX11_fallCount_1 : decode cX11_fallCount 1 = .ok (.getfield 38, 3) := by decide +kernel
theorem dX11_fallCount_4 : decode cX11_fallCount 4 = .ok (.getfield 270, 3) := by decide +kernel
theorem dX11_fallCount_7 : decode cX11_fallCount 7 = .ok (.ireturn, 1) := by decide +kernel
theorem dX11_averagePurse_0 : decode cX11_averagePurse 0 = .ok (.aload_n 0, 1) := by decide +kernel
theorem dX11_averagePurse_1 : decode cX11_averagePurse 1 = .ok (.getfield 38, 3) := by decide +kernel
theorem dX11_averagePurse_4 : decode cX11_averagePurse 4 = .ok (.invokevirtual 273, 3) := by decide +kernel
theorem dX11_averagePurse_7 : decode cX11_averagePurse 7 = .ok (.istore_n 1, 1) := by decide +kernel
theorem dX11_averagePurse_8 : decode cX11_averagePurse 8 = .ok (.iload_n 1, 1) := by decide +kernel
theorem dX11_averagePurse_9 : decode cX11_averagePurse 9 = .ok (.ifCond .ne 7, 3) := by decide +kernel
theorem dX11_averagePurse_12 : decode cX11_averagePurse 12 = .ok (.dconst 0, 1) := by decide +kernel
theorem dX11_averagePurse_13 : decode cX11_averagePurse 13 = .ok (.goto 14, 3) := by decide +kernel
theorem dX11_averagePurse_16 : decode cX11_averagePurse 16 = .ok (.aload_n 0, 1) := by decide +kernel
theorem dX11_averagePurse_17 : decode cX11_averagePurse 17 = .ok (.getfield 38, 3) := by decide +kernel
theorem dX11_averagePurse_20 : decode cX11_averagePurse 20 = .ok (.invokevirtual 277, 3) := by decide +kernel
theorem dX11_averagePurse_23 : decode cX11_averagePurse 23 = .ok (.i2d, 1) := by decide +kernel
theorem dX11_averagePurse_24 : decode cX11_averagePurse 24 = .ok (.iload_n 1, 1) := by decide +kernel
theorem dX11_averagePurse_25 : decode cX11_averagePurse 25 = .ok (.i2d, 1) := by decide +kernel
theorem dX11_averagePurse_26 : decode cX11_averagePurse 26 = .ok (.ddiv, 1) := by decide +kernel
theorem dX11_averagePurse_27 : decode cX11_averagePurse 27 = .ok (.dreturn, 1) := by decide +kernel
theorem dX11_occupancy_0 : decode cX11_occupancy 0 = .ok (.aload_n 0, 1) := by decide +kernel
theorem dX11_occupancy_1 : decode cX11_occupancy 1 = .ok (.getfield 38, 3) := by decide +kernel
theorem dX11_occupancy_4 : decode cX11_occupancy 4 = .ok (.invokevirtual 280, 3) := by decide +kernel
theorem dX11_occupancy_7 : decode cX11_occupancy 7 = .ok (.istore_n 1, 1) := by decide +kernel
theorem dX11_occupancy_8 : decode cX11_occupancy 8 = .ok (.iload_n 1, 1) := by decide +kernel
theorem dX11_occupancy_9 : decode cX11_occupancy 9 = .ok (.ifCond .ne 7, 3) := by decide +kernel
theorem dX11_occupancy_12 : decode cX11_occupancy 12 = .ok (.fconst 0, 1) := by decide +kernel
theorem dX11_occupancy_13 : decode cX11_occupancy 13 = .ok (.goto 14, 3) := by decide +kernel
theorem dX11_occupancy_16 : decode cX11_occupancy 16 = .ok (.aload_n 0, 1) := by decide +kernel
theorem dX11_occupancy_17 : decode cX11_occupancy 17 = .ok (.getfield 38, 3) := by decide +kernel
theorem dX11_occupancy_20 : decode cX11_occupancy 20 = .ok (.invokevirtual 283, 3) := by decide +kernel
theorem dX11_occupancy_23 : decode cX11_occupancy 23 = .ok (.i2f, 1) := by decide +kernel
theorem dX11_occupancy_24 : decode cX11_occupancy 24 = .ok (.iload_n 1, 1) := by decide +kernel
theorem dX11_occupancy_25 : decode cX11_occupancy 25 = .ok (.i2f, 1) := by decide +kernel
theorem dX11_occupancy_26 : decode cX11_occupancy 26 = .ok (.fdiv, 1) := by decide +kernel
theorem dX11_occupancy_27 : decode cX11_occupancy 27 = .ok (.freturn, 1) := by decide +kernel
theorem dX11_contradictions_0 : decode cX11_contradictions 0 = .ok (.aload_n 0, 1) := by decide +kernel
theorem dX11_contradictions_1 : decode cX11_contradictions 1 = .ok (.getfield 38, 3) := by decide +kernel
theorem dX11_contradictions_4 : decode cX11_contradictions 4 = .ok (.invokevirtual 286, 3) := by decide +kernel
theorem dX11_contradictions_7 : decode cX11_contradictions 7 = .ok (.ireturn, 1) := by decide +kernel
theorem dX11_eventKind_0 : decode cX11_eventKind 0 = .ok (.aload_n 0, 1) := by decide +kernel
theorem dX11_eventKind_1 : decode cX11_eventKind 1 = .ok (.getfield 38, 3) := by decide +kernel
theorem dX11_eventKind_4 : decode cX11_eventKind 4 = .ok (.getfield 289, 3) := by decide +kernel
theorem dX11_eventKind_7 : decode cX11_eventKind 7 = .ok (.iload_n 1, 1) := by decide +kernel
theorem dX11_eventKind_8 : decode cX11_eventKind 8 = .ok (.invokevirtual 293, 3) := by decide +kernel
theorem dX11_eventKind_11 : decode cX11_eventKind 11 = .ok (.ireturn, 1) := by decide +kernel
theorem dX11_eventTrader_0 : decode cX11_eventTrader 0 = .ok (.aload_n 0, 1) := by decide +kernel
theorem dX11_eventTrader_1 : decode cX11_eventTrader 1 = .ok (.getfield 38, 3) := by decide +kernel
theorem dX11_eventTrader_4 : decode cX11_eventTrader 4 = .ok (.getfield 289, 3) := by decide +kernel
theorem dX11_eventTrader_7 : decode cX11_eventTrader 7 = .ok (.iload_n 1, 1) := by decide +kernel
theorem dX11_eventTrader_8 : decode cX11_eventTrader 8 = .ok (.invokevirtual 298, 3) := by decide +kernel
theorem dX11_eventTrader_11 : decode cX11_eventTrader 11 = .ok (.ireturn, 1) := by decide +kernel
theorem dX11_eventDay_0 : decode cX11_eventDay 0 = .ok (.aload_n 0, 1) := by decide +kernel
theorem dX11_eventDay_1 : decode cX11_eventDay 1 = .ok (.getfield 38, 3) := by decide +kernel
theorem dX11_eventDay_4 : decode cX11_eventDay 4 = .ok (.getfield 289, 3) := by decide +kernel
theorem dX11_eventDay_7 : decode cX11_eventDay 7 = .ok (.iload_n 1, 1) := by decide +kernel
theorem dX11_eventDay_8 : decode cX11_eventDay 8 = .ok (.invokevirtual 301, 3) := by decide +kernel
theorem dX11_eventDay_11 : decode cX11_eventDay 11 = .ok (.ireturn, 1) := by decide +kernel
theorem dX11_purseAfter_0 : decode cX11_purseAfter 0 = .ok (.aload_n 0, 1) := by decide +kernel
theorem dX11_purseAfter_1 : decode cX11_purseAfter 1 = .ok (.iload_n 1, 1) := by decide +kernel
theorem dX11_purseAfter_2 : decode cX11_purseAfter 2 = .ok (.invokevirtual 199, 3) := by decide +kernel
theorem dX11_purseAfter_5 : decode cX11_purseAfter 5 = .ok (.getfield 194, 3) := by decide +kernel
theorem dX11_purseAfter_8 : decode cX11_purseAfter 8 = .ok (.istore_n 3, 1) := by decide +kernel
theorem dX11_purseAfter_9 : decode cX11_purseAfter 9 = .ok (.iload_n 2, 1) := by decide +kernel
theorem dX11_purseAfter_10 : decode cX11_purseAfter 10 = .ok (.iconst 0, 1) := by decide +kernel
theorem dX11_purseAfter_11 : decode cX11_purseAfter 11 = .ok (.bipush 100, 2) := by decide +kernel
theorem dX11_purseAfter_13 : decode cX11_purseAfter 13 = .ok (.invokestatic 91, 3) := by decide +kernel
theorem dX11_purseAfter_16 : decode cX11_purseAfter 16 = .ok (.aload_n 0, 1) := by decide +kernel
theorem dX11_purseAfter_17 : decode cX11_purseAfter 17 = .ok (.getfield 42, 3) := by decide +kernel
theorem dX11_purseAfter_20 : decode cX11_purseAfter 20 = .ok (.aload_n 0, 1) := by decide +kernel
theorem dX11_purseAfter_21 : decode cX11_purseAfter 21 = .ok (.getfield 38, 3) := by decide +kernel
theorem dX11_purseAfter_24 : decode cX11_purseAfter 24 = .ok (.invokevirtual 304, 3) := by decide +kernel
theorem dX11_purseAfter_27 : decode cX11_purseAfter 27 = .ok (.aload_n 0, 1) := by decide +kernel
theorem dX11_purseAfter_28 : decode cX11_purseAfter 28 = .ok (.getfield 42, 3) := by decide +kernel
theorem dX11_purseAfter_31 : decode cX11_purseAfter 31 = .ok (.iload_n 2, 1) := by decide +kernel
theorem dX11_purseAfter_32 : decode cX11_purseAfter 32 = .ok (.invokevirtual 307, 3) := by decide +kernel
theorem dX11_purseAfter_35 : decode cX11_purseAfter 35 = .ok (.pop, 1) := by decide +kernel
theorem dX11_purseAfter_36 : decode cX11_purseAfter 36 = .ok (.aload_n 0, 1) := by decide +kernel
theorem dX11_purseAfter_37 : decode cX11_purseAfter 37 = .ok (.getfield 42, 3) := by decide +kernel
theorem dX11_purseAfter_40 : decode cX11_purseAfter 40 = .ok (.iload_n 3, 1) := by decide +kernel
theorem dX11_purseAfter_41 : decode cX11_purseAfter 41 = .ok (.invokevirtual 310, 3) := by decide +kernel
theorem dX11_purseAfter_44 : decode cX11_purseAfter 44 = .ok (.astore 4, 2) := by decide +kernel
theorem dX11_purseAfter_46 : decode cX11_purseAfter 46 = .ok (.aload 4, 2) := by decide +kernel
theorem dX11_purseAfter_48 : decode cX11_purseAfter 48 = .ok (.ifnonnull 7, 3) := by decide +kernel
theorem dX11_purseAfter_51 : decode cX11_purseAfter 51 = .ok (.iconst 0, 1) := by decide +kernel
theorem dX11_purseAfter_52 : decode cX11_purseAfter 52 = .ok (.goto 8, 3) := by decide +kernel
theorem dX11_purseAfter_55 : decode cX11_purseAfter 55 = .ok (.aload 4, 2) := by decide +kernel
theorem dX11_purseAfter_57 : decode cX11_purseAfter 57 = .ok (.getfield 214, 3) := by decide +kernel
theorem dX11_purseAfter_60 : decode cX11_purseAfter 60 = .ok (.ireturn, 1) := by decide +kernel
theorem dX11_bankAfter_0 : decode cX11_bankAfter 0 = .ok (.iload_n 1, 1) := by decide +kernel
theorem dX11_bankAfter_1 : decode cX11_bankAfter 1 = .ok (.iconst 0, 1) := by decide +kernel
theorem dX11_bankAfter_2 : decode cX11_bankAfter 2 = .ok (.bipush 100, 2) := by decide +kernel
theorem dX11_bankAfter_4 : decode cX11_bankAfter 4 = .ok (.invokestatic 91, 3) := by decide +kernel
theorem dX11_bankAfter_7 : decode cX11_bankAfter 7 = .ok (.aload_n 0, 1) := by decide +kernel
theorem dX11_bankAfter_8 : decode cX11_bankAfter 8 = .ok (.getfield 42, 3) := by decide +kernel
theorem dX11_bankAfter_11 : decode cX11_bankAfter 11 = .ok (.aload_n 0, 1) := by decide +kernel
theorem dX11_bankAfter_12 : decode cX11_bankAfter 12 = .ok (.getfield 38, 3) := by decide +kernel
theorem dX11_bankAfter_15 : decode cX11_bankAfter 15 = .ok (.invokevirtual 304, 3) := by decide +kernel
theorem dX11_bankAfter_18 : decode cX11_bankAfter 18 = .ok (.aload_n 0, 1) := by decide +kernel
theorem dX11_bankAfter_19 : decode cX11_bankAfter 19 = .ok (.getfield 42, 3) := by decide +kernel
theorem dX11_bankAfter_22 : decode cX11_bankAfter 22 = .ok (.iload_n 1, 1) := by decide +kernel
theorem dX11_bankAfter_23 : decode cX11_bankAfter 23 = .ok (.invokevirtual 307, 3) := by decide +kernel
theorem dX11_bankAfter_26 : decode cX11_bankAfter 26 = .ok (.pop, 1) := by decide +kernel
theorem dX11_bankAfter_27 : decode cX11_bankAfter 27 = .ok (.aload_n 0, 1) := by decide +kernel
theorem dX11_bankAfter_28 : decode cX11_bankAfter 28 = .ok (.getfield 42, 3) := by decide +kernel
theorem dX11_bankAfter_31 : decode cX11_bankAfter 31 = .ok (.getfield 132, 3) := by decide +kernel
theorem dX11_bankAfter_34 : decode cX11_bankAfter 34 = .ok (.ireturn, 1) := by decide +kernel
theorem dX11_daysUntilFall_0 : decode cX11_daysUntilFall 0 = .ok (.aload_n 0, 1) := by decide +kernel
theorem dX11_daysUntilFall_1 : decode cX11_daysUntilFall 1 = .ok (.iload_n 1, 1) := by decide +kernel
theorem dX11_daysUntilFall_2 : decode cX11_daysUntilFall 2 = .ok (.invokevirtual 199, 3) := by decide +kernel
theorem dX11_daysUntilFall_5 : decode cX11_daysUntilFall 5 = .ok (.getfield 194, 3) := by decide +kernel
theorem dX11_daysUntilFall_8 : decode cX11_daysUntilFall 8 = .ok (.istore_n 2, 1) := by decide +kernel
theorem dX11_daysUntilFall_9 : decode cX11_daysUntilFall 9 = .ok (.aload_n 0, 1) := by decide +kernel
theorem dX11_daysUntilFall_10 : decode cX11_daysUntilFall 10 = .ok (.getfield 42, 3) := by decide +kernel
theorem dX11_daysUntilFall_13 : decode cX11_daysUntilFall 13 = .ok (.aload_n 0, 1) := by decide +kernel
theorem dX11_daysUntilFall_14 : decode cX11_daysUntilFall 14 = .ok (.getfield 38, 3) := by decide +kernel
theorem dX11_daysUntilFall_17 : decode cX11_daysUntilFall 17 = .ok (.invokevirtual 304, 3) := by decide +kernel
theorem dX11_daysUntilFall_20 : decode cX11_daysUntilFall 20 = .ok (.aload_n 0, 1) := by decide +kernel
theorem dX11_daysUntilFall_21 : decode cX11_daysUntilFall 21 = .ok (.getfield 42, 3) := by decide +kernel
theorem dX11_daysUntilFall_24 : decode cX11_daysUntilFall 24 = .ok (.aload_n 0, 1) := by decide +kernel
theorem dX11_daysUntilFall_25 : decode cX11_daysUntilFall 25 = .ok (.getfield 42, 3) := by decide +kernel
theorem dX11_daysUntilFall_28 : decode cX11_daysUntilFall 28 = .ok (.iload_n 2, 1) := by decide +kernel
theorem dX11_daysUntilFall_29 : decode cX11_daysUntilFall 29 = .ok (.invokevirtual 310, 3) := by decide +kernel
theorem dX11_daysUntilFall_32 : decode cX11_daysUntilFall 32 = .ok (.invokevirtual 313, 3) := by decide +kernel
theorem dX11_daysUntilFall_35 : decode cX11_daysUntilFall 35 = .ok (.ireturn, 1) := by decide +kernel
theorem dX11_daysUntilRetirement_0 : decode cX11_daysUntilRetirement 0 = .ok (.aload_n 0, 1) := by decide +kernel
theorem dX11_daysUntilRetirement_1 : decode cX11_daysUntilRetirement 1 = .ok (.iload_n 1, 1) := by decide +kernel
theorem dX11_daysUntilRetirement_2 : decode cX11_daysUntilRetirement 2 = .ok (.invokevirtual 199, 3) := by decide +kernel
theorem dX11_daysUntilRetirement_5 : decode cX11_daysUntilRetirement 5 = .ok (.astore_n 2, 1) := by decide +kernel
theorem dX11_daysUntilRetirement_6 : decode cX11_daysUntilRetirement 6 = .ok (.aload_n 2, 1) := by decide +kernel
theorem dX11_daysUntilRetirement_7 : decode cX11_daysUntilRetirement 7 = .ok (.getfield 220, 3) := by decide +kernel
theorem dX11_daysUntilRetirement_10 : decode cX11_daysUntilRetirement 10 = .ok (.ifCond .eq 20, 3) := by decide +kernel
theorem dX11_daysUntilRetirement_13 : decode cX11_daysUntilRetirement 13 = .ok (.aload_n 0, 1) := by decide +kernel
theorem dX11_daysUntilRetirement_14 : decode cX11_daysUntilRetirement 14 = .ok (.getfield 38, 3) := by decide +kernel
theorem dX11_daysUntilRetirement_17 : decode cX11_daysUntilRetirement 17 = .ok (.getfield 141, 3) := by decide +kernel
theorem dX11_daysUntilRetirement_20 : decode cX11_daysUntilRetirement 20 = .ok (.aload_n 2, 1) := by decide +kernel
theorem dX11_daysUntilRetirement_21 : decode cX11_daysUntilRetirement 21 = .ok (.getfield 217, 3) := by decide +kernel
theorem dX11_daysUntilRetirement_24 : decode cX11_daysUntilRetirement 24 = .ok (.isub, 1) := by decide +kernel
theorem dX11_daysUntilRetirement_25 : decode cX11_daysUntilRetirement 25 = .ok (.iconst 1, 1) := by decide +kernel
theorem dX11_daysUntilRetirement_26 : decode cX11_daysUntilRetirement 26 = .ok (.iadd, 1) := by decide +kernel
theorem dX11_daysUntilRetirement_27 : decode cX11_daysUntilRetirement 27 = .ok (.goto 4, 3) := by decide +kernel
theorem dX11_daysUntilRetirement_30 : decode cX11_daysUntilRetirement 30 = .ok (.iconst 0, 1) := by decide +kernel
theorem dX11_daysUntilRetirement_31 : decode cX11_daysUntilRetirement 31 = .ok (.ireturn, 1) := by decide +kernel
theorem dX11_join_0 : decode cX11_join 0 = .ok (.iload_n 1, 1) := by decide +kernel
theorem dX11_join_1 : decode cX11_join 1 = .ok (.iconst 1, 1) := by decide +kernel
theorem dX11_join_2 : decode cX11_join 2 = .ok (.bipush 99, 2) := by decide +kernel
theorem dX11_join_4 : decode cX11_join 4 = .ok (.invokestatic 91, 3) := by decide +kernel
theorem dX11_join_7 : decode cX11_join 7 = .ok (.iload_n 2, 1) := by decide +kernel
theorem dX11_join_8 : decode cX11_join 8 = .ok (.iconst 0, 1) := by decide +kernel
theorem dX11_join_9 : decode cX11_join 9 = .ok (.sipush 9999, 3) := by decide +kernel
theorem dX11_join_12 : decode cX11_join 12 = .ok (.invokestatic 91, 3) := by decide +kernel
theorem dX11_join_15 : decode cX11_join 15 = .ok (.aload_n 0, 1) := by decide +kernel
theorem dX11_join_16 : decode cX11_join 16 = .ok (.getfield 10, 3) := by decide +kernel
theorem dX11_join_19 : decode cX11_join 19 = .ok (.iconst 0, 1) := by decide +kernel
theorem dX11_join_20 : decode cX11_join 20 = .ok (.aload_n 0, 1) := by decide +kernel
theorem dX11_join_21 : decode cX11_join 21 = .ok (.getfield 10, 3) := by decide +kernel
theorem dX11_join_24 : decode cX11_join 24 = .ok (.getfield 77, 3) := by decide +kernel
