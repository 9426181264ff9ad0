theorem dX0_init_0 : decode cX0_init 0 = .ok (.aload_n 0, 1) := by decide +kernel
theorem dX0_init_1 : decode cX0_init 1 = .ok (.invokespecial 3, 3) := by decide +kernel
theorem dX0_init_4 : decode cX0_init 4 = .ok (.aload_n 0, 1) := by decide +kernel
theorem dX0_init_5 : decode cX0_init 5 = .ok (.bipush 13, 2) := by decide +kernel
theorem dX0_init_7 : decode cX0_init 7 = .ok (.newarray .int, 2) := by decide +kernel
theorem dX0_init_9 : decode cX0_init 9 = .ok (.putfield 9, 3) := by decide +kernel
theorem dX0_init_12 : decode cX0_init 12 = .ok (.aload_n 0, 1) := by decide +kernel
theorem dX0_init_13 : decode cX0_init 13 = .ok (.iload_n 1, 1) := by decide +kernel
theorem dX0_init_14 : decode cX0_init 14 = .ok (.putfield 15, 3) := by decide +kernel
theorem dX0_init_17 : decode cX0_init 17 = .ok (.return_, 1) := by decide +kernel
theorem dX0_build_0 : decode cX0_build 0 = .ok (.aload_n 0, 1) := by decide +kernel
theorem dX0_build_1 : decode cX0_build 1 = .ok (.iload_n 1, 1) := by decide +kernel
theorem dX0_build_2 : decode cX0_build 2 = .ok (.putfield 19, 3) := by decide +kernel
theorem dX0_build_5 : decode cX0_build 5 = .ok (.aload_n 0, 1) := by decide +kernel
theorem dX0_build_6 : decode cX0_build 6 = .ok (.iload_n 2, 1) := by decide +kernel
theorem dX0_build_7 : decode cX0_build 7 = .ok (.putfield 22, 3) := by decide +kernel
theorem dX0_build_10 : decode cX0_build 10 = .ok (.aload_n 0, 1) := by decide +kernel
theorem dX0_build_11 : decode cX0_build 11 = .ok (.iload_n 3, 1) := by decide +kernel
theorem dX0_build_12 : decode cX0_build 12 = .ok (.putfield 25, 3) := by decide +kernel
theorem dX0_build_15 : decode cX0_build 15 = .ok (.iconst 0, 1) := by decide +kernel
theorem dX0_build_16 : decode cX0_build 16 = .ok (.istore 4, 2) := by decide +kernel
theorem dX0_build_18 : decode cX0_build 18 = .ok (.iload 4, 2) := by decide +kernel
theorem dX0_build_20 : decode cX0_build 20 = .ok (.aload_n 0, 1) := by decide +kernel
theorem dX0_build_21 : decode cX0_build 21 = .ok (.getfield 9, 3) := by decide +kernel
theorem dX0_build_24 : decode cX0_build 24 = .ok (.arraylength, 1) := by decide +kernel
theorem dX0_build_25 : decode cX0_build 25 = .ok (.if_icmp .ge 17, 3) := by decide +kernel
theorem dX0_build_28 : decode cX0_build 28 = .ok (.aload_n 0, 1) := by decide +kernel
theorem dX0_build_29 : decode cX0_build 29 = .ok (.getfield 9, 3) := by decide +kernel
theorem dX0_build_32 : decode cX0_build 32 = .ok (.iload 4, 2) := by decide +kernel
theorem dX0_build_34 : decode cX0_build 34 = .ok (.iconst (-1), 1) := by decide +kernel
theorem dX0_build_35 : decode cX0_build 35 = .ok (.iastore, 1) := by decide +kernel
theorem dX0_build_36 : decode cX0_build 36 = .ok (.iinc 4 1, 3) := by decide +kernel
theorem dX0_build_39 : decode cX0_build 39 = .ok (.goto (-21), 3) := by decide +kernel
theorem dX0_build_42 : decode cX0_build 42 = .ok (.return_, 1) := by decide +kernel
theorem dX0_hasSeat_0 : decode cX0_hasSeat 0 = .ok (.iload_n 1, 1) := by decide +kernel
theorem dX0_hasSeat_1 : decode cX0_hasSeat 1 = .ok (.ifCond .eq 24, 3) := by decide +kernel
theorem dX0_hasSeat_4 : decode cX0_hasSeat 4 = .ok (.iload_n 1, 1) := by decide +kernel
theorem dX0_hasSeat_5 : decode cX0_hasSeat 5 = .ok (.aload_n 0, 1) := by decide +kernel
theorem dX0_hasSeat_6 : decode cX0_hasSeat 6 = .ok (.getfield 19, 3) := by decide +kernel
theorem dX0_hasSeat_9 : decode cX0_hasSeat 9 = .ok (.ineg, 1) := by decide +kernel
theorem dX0_hasSeat_10 : decode cX0_hasSeat 10 = .ok (.if_icmp .lt 15, 3) := by decide +kernel
theorem dX0_hasSeat_13 : decode cX0_hasSeat 13 = .ok (.iload_n 1, 1) := by decide +kernel
theorem dX0_hasSeat_14 : decode cX0_hasSeat 14 = .ok (.aload_n 0, 1) := by decide +kernel
theorem dX0_hasSeat_15 : decode cX0_hasSeat 15 = .ok (.getfield 19, 3) := by decide +kernel
theorem dX0_hasSeat_18 : decode cX0_hasSeat 18 = .ok (.if_icmp .gt 7, 3) := by decide +kernel
theorem dX0_hasSeat_21 : decode cX0_hasSeat 21 = .ok (.iconst 1, 1) := by decide +kernel
theorem dX0_hasSeat_22 : decode cX0_hasSeat 22 = .ok (.goto 4, 3) := by decide +kernel
theorem dX0_hasSeat_25 : decode cX0_hasSeat 25 = .ok (.iconst 0, 1) := by decide +kernel
theorem dX0_hasSeat_26 : decode cX0_hasSeat 26 = .ok (.ireturn, 1) := by decide +kernel
theorem dX0_ownerAt_0 : decode cX0_ownerAt 0 = .ok (.iload_n 1, 1) := by decide +kernel
theorem dX0_ownerAt_1 : decode cX0_ownerAt 1 = .ok (.bipush 6, 2) := by decide +kernel
theorem dX0_ownerAt_3 : decode cX0_ownerAt 3 = .ok (.iadd, 1) := by decide +kernel
theorem dX0_ownerAt_4 : decode cX0_ownerAt 4 = .ok (.istore_n 2, 1) := by decide +kernel
theorem dX0_ownerAt_5 : decode cX0_ownerAt 5 = .ok (.iload_n 2, 1) := by decide +kernel
theorem dX0_ownerAt_6 : decode cX0_ownerAt 6 = .ok (.ifCond .lt 21, 3) := by decide +kernel
theorem dX0_ownerAt_9 : decode cX0_ownerAt 9 = .ok (.iload_n 2, 1) := by decide +kernel
theorem dX0_ownerAt_10 : decode cX0_ownerAt 10 = .ok (.aload_n 0, 1) := by decide +kernel
theorem dX0_ownerAt_11 : decode cX0_ownerAt 11 = .ok (.getfield 9, 3) := by decide +kernel
theorem dX0_ownerAt_14 : decode cX0_ownerAt 14 = .ok (.arraylength, 1) := by decide +kernel
theorem dX0_ownerAt_15 : decode cX0_ownerAt 15 = .ok (.if_icmp .ge 12, 3) := by decide +kernel
theorem dX0_ownerAt_18 : decode cX0_ownerAt 18 = .ok (.aload_n 0, 1) := by decide +kernel
theorem dX0_ownerAt_19 : decode cX0_ownerAt 19 = .ok (.getfield 9, 3) := by decide +kernel
theorem dX0_ownerAt_22 : decode cX0_ownerAt 22 = .ok (.iload_n 2, 1) := by decide +kernel
theorem dX0_ownerAt_23 : decode cX0_ownerAt 23 = .ok (.iaload, 1) := by decide +kernel
theorem dX0_ownerAt_24 : decode cX0_ownerAt 24 = .ok (.goto 4, 3) := by decide +kernel
theorem dX0_ownerAt_27 : decode cX0_ownerAt 27 = .ok (.iconst (-1), 1) := by decide +kernel
theorem dX0_ownerAt_28 : decode cX0_ownerAt 28 = .ok (.ireturn, 1) := by decide +kernel
theorem dX0_setOwner_0 : decode cX0_setOwner 0 = .ok (.iload_n 1, 1) := by decide +kernel
theorem dX0_setOwner_1 : decode cX0_setOwner 1 = .ok (.bipush 6, 2) := by decide +kernel
theorem dX0_setOwner_3 : decode cX0_setOwner 3 = .ok (.iadd, 1) := by decide +kernel
theorem dX0_setOwner_4 : decode cX0_setOwner 4 = .ok (.istore_n 3, 1) := by decide +kernel
theorem dX0_setOwner_5 : decode cX0_setOwner 5 = .ok (.iload_n 3, 1) := by decide +kernel
theorem dX0_setOwner_6 : decode cX0_setOwner 6 = .ok (.ifCond .lt 19, 3) := by decide +kernel
theorem dX0_setOwner_9 : decode cX0_setOwner 9 = .ok (.iload_n 3, 1) := by decide +kernel
theorem dX0_setOwner_10 : decode cX0_setOwner 10 = .ok (.aload_n 0, 1) := by decide +kernel
theorem dX0_setOwner_11 : decode cX0_setOwner 11 = .ok (.getfield 9, 3) := by decide +kernel
theorem dX0_setOwner_14 : decode cX0_setOwner 14 = .ok (.arraylength, 1) := by decide +kernel
theorem dX0_setOwner_15 : decode cX0_setOwner 15 = .ok (.if_icmp .ge 10, 3) := by decide +kernel
theorem dX0_setOwner_18 : decode cX0_setOwner 18 = .ok (.aload_n 0, 1) := by decide +kernel
theorem dX0_setOwner_19 : decode cX0_setOwner 19 = .ok (.getfield 9, 3) := by decide +kernel
theorem dX0_setOwner_22 : decode cX0_setOwner 22 = .ok (.iload_n 3, 1) := by decide +kernel
theorem dX0_setOwner_23 : decode cX0_setOwner 23 = .ok (.iload_n 2, 1) := by decide +kernel
theorem dX0_setOwner_24 : decode cX0_setOwner 24 = .ok (.iastore, 1) := by decide +kernel
theorem dX0_setOwner_25 : decode cX0_setOwner 25 = .ok (.return_, 1) := by decide +kernel
theorem dX0_isFree_0 : decode cX0_isFree 0 = .ok (.aload_n 0, 1) := by decide +kernel
theorem dX0_isFree_1 : decode cX0_isFree 1 = .ok (.iload_n 1, 1) := by decide +kernel
theorem dX0_isFree_2 : decode cX0_isFree 2 = .ok (.invokevirtual 28, 3) := by decide +kernel
theorem dX0_isFree_5 : decode cX0_isFree 5 = .ok (.ifCond .eq 16, 3) := by decide +kernel
theorem dX0_isFree_8 : decode cX0_isFree 8 = .ok (.aload_n 0, 1) := by decide +kernel
theorem dX0_isFree_9 : decode cX0_isFree 9 = .ok (.iload_n 1, 1) := by decide +kernel
theorem dX0_isFree_10 : decode cX0_isFree 10 = .ok (.invokevirtual 32, 3) := by decide +kernel
theorem dX0_isFree_13 : decode cX0_isFree 13 = .ok (.iconst (-1), 1) := by decide +kernel
theorem dX0_isFree_14 : decode cX0_isFree 14 = .ok (.if_icmp .ne 7, 3) := by decide +kernel
theorem dX0_isFree_17 : decode cX0_isFree 17 = .ok (.iconst 1, 1) := by decide +kernel
theorem dX0_isFree_18 : decode cX0_isFree 18 = .ok (.goto 4, 3) := by decide +kernel
theorem dX0_isFree_21 : decode cX0_isFree 21 = .ok (.iconst 0, 1) := by decide +kernel
theorem dX0_isFree_22 : decode cX0_isFree 22 = .ok (.ireturn, 1) := by decide +kernel
theorem dX0_tipsUnder_0 : decode cX0_tipsUnder 0 = .ok (.iload_n 1, 1) := by decide +kernel
theorem dX0_tipsUnder_1 : decode cX0_tipsUnder 1 = .ok (.invokestatic 36, 3) := by decide +kernel
theorem dX0_tipsUnder_4 : decode cX0_tipsUnder 4 = .ok (.aload_n 0, 1) := by decide +kernel
theorem dX0_tipsUnder_5 : decode cX0_tipsUnder 5 = .ok (.getfield 25, 3) := by decide +kernel
theorem dX0_tipsUnder_8 : decode cX0_tipsUnder 8 = .ok (.if_icmp .le 7, 3) := by decide +kernel
theorem dX0_tipsUnder_11 : decode cX0_tipsUnder 11 = .ok (.iconst 1, 1) := by decide +kernel
theorem dX0_tipsUnder_12 : decode cX0_tipsUnder 12 = .ok (.goto 4, 3) := by decide +kernel
theorem dX0_tipsUnder_15 : decode cX0_tipsUnder 15 = .ok (.iconst 0, 1) := by decide +kernel
theorem dX0_tipsUnder_16 : decode cX0_tipsUnder 16 = .ok (.ireturn, 1) := by decide +kernel
theorem dX0_tiltUnder_0 : decode cX0_tiltUnder 0 = .ok (.aload_n 0, 1) := by decide +kernel
theorem dX0_tiltUnder_1 : decode cX0_tiltUnder 1 = .ok (.getfield 22, 3) := by decide +kernel
theorem dX0_tiltUnder_4 : decode cX0_tiltUnder 4 = .ok (.iconst 1, 1) := by decide +kernel
theorem dX0_tiltUnder_5 : decode cX0_tiltUnder 5 = .ok (.if_icmp .ge 5, 3) := by decide +kernel
theorem dX0_tiltUnder_8 : decode cX0_tiltUnder 8 = .ok (.iconst 0, 1) := by decide +kernel
theorem dX0_tiltUnder_9 : decode cX0_tiltUnder 9 = .ok (.ireturn, 1) := by decide +kernel
theorem dX0_tiltUnder_10 : decode cX0_tiltUnder 10 = .ok (.bipush (-9), 2) := by decide +kernel
theorem dX0_tiltUnder_12 : decode cX0_tiltUnder 12 = .ok (.bipush 9, 2) := by decide +kernel
theorem dX0_tiltUnder_14 : decode cX0_tiltUnder 14 = .ok (.iload_n 1, 1) := by decide +kernel
theorem dX0_tiltUnder_15 : decode cX0_tiltUnder 15 = .ok (.aload_n 0, 1) := by decide +kernel
theorem dX0_tiltUnder_16 : decode cX0_tiltUnder 16 = .ok (.getfield 22, 3) := by decide +kernel
theorem dX0_tiltUnder_19 : decode cX0_tiltUnder 19 = .ok (.idiv, 1) := by decide +kernel
theorem dX0_tiltUnder_20 : decode cX0_tiltUnder 20 = .ok (.invokestatic 41, 3) := by decide +kernel
theorem dX0_tiltUnder_23 : decode cX0_tiltUnder 23 = .ok (.invokestatic 45, 3) := by decide +kernel
theorem dX0_tiltUnder_26 : decode cX0_tiltUnder 26 = .ok (.ireturn, 1) := by decide +kernel
theorem dX0_copyFrom_0 : decode cX0_copyFrom 0 = .ok (.aload_n 0, 1) := by decide +kernel
theorem dX0_copyFrom_1 : decode cX0_copyFrom 1 = .ok (.aload_n 1, 1) := by decide +kernel
theorem dX0_copyFrom_2 : decode cX0_copyFrom 2 = .ok (.getfield 19, 3) := by decide +kernel
theorem dX0_copyFrom_5 : decode cX0_copyFrom 5 = .ok (.putfield 19, 3) := by decide +kernel
theorem dX0_copyFrom_8 : decode cX0_copyFrom 8 = .ok (.aload_n 0, 1) := by decide +kernel
theorem dX0_copyFrom_9 : decode cX0_copyFrom 9 = .ok (.aload_n 1, 1) := by decide +kernel
theorem dX0_copyFrom_10 : decode cX0_copyFrom 10 = .ok (.getfield 22, 3) := by decide +kernel
theorem dX0_copyFrom_13 : decode cX0_copyFrom 13 = .ok (.putfield 22, 3) := by decide +kernel
theorem dX0_copyFrom_16 : decode cX0_copyFrom 16 = .ok (.aload_n 0, 1) := by decide +kernel
theorem dX0_copyFrom_17 : decode cX0_copyFrom 17 = .ok (.aload_n 1, 1) := by decide +kernel
theorem dX0_copyFrom_18 : decode cX0_copyFrom 18 = .ok (.getfield 25, 3) := by decide +kernel
theorem dX0_copyFrom_21 : decode cX0_copyFrom 21 = .ok (.putfield 25, 3) := by decide +kernel
theorem dX0_copyFrom_24 : decode cX0_copyFrom 24 = .ok (.aload_n 1, 1) := by decide +kernel
theorem dX0_copyFrom_25 : decode cX0_copyFrom 25 = .ok (.getfield 9, 3) := by decide +kernel
theorem dX0_copyFrom_28 : decode cX0_copyFrom 28 = .ok (.iconst 0, 1) := by decide +kernel
theorem dX0_copyFrom_29 : decode cX0_copyFrom 29 = .ok (.aload_n 0, 1) := by decide +kernel
theorem dX0_copyFrom_30 : decode cX0_copyFrom 30 = .ok (.getfield 9, 3) := by decide +kernel
theorem dX0_copyFrom_33 : decode cX0_copyFrom 33 = .ok (.iconst 0, 1) := by decide +kernel
theorem dX0_copyFrom_34 : decode cX0_copyFrom 34 = .ok (.aload_n 0, 1) := by decide +kernel
theorem dX0_copyFrom_35 : decode cX0_copyFrom 35 = .ok (.getfield 9, 3) := by decide +kernel
theorem dX0_copyFrom_38 : decode cX0_copyFrom 38 = .ok (.arraylength, 1) := by decide +kernel
theorem dX0_copyFrom_39 : decode cX0_copyFrom 39 = .ok (.invokestatic 48, 3) := by decide +kernel
theorem dX0_copyFrom_42 : decode cX0_copyFrom 42 = .ok (.return_, 1) := by decide +kernel
theorem dX1_init_0 : decode cX1_init 0 = .ok (.aload_n 0, 1) := by decide +kernel
theorem dX1_init_1 : decode cX1_init 1 = .ok (.invokespecial 3, 3) := by decide +kernel
theorem dX1_init_4 : decode cX1_init 4 = .ok (.return_, 1) := by decide +kernel
theorem dX2_init_0 : decode cX2_init 0 = .ok (.aload_n 0, 1) := by decide +kernel
theorem dX2_init_1 : decode cX2_init 1 = .ok (.invokespecial 3, 3) := by decide +kernel
theorem dX2_init_4 : decode cX2_init 4 = .ok (.aload_n 0, 1) := by decide +kernel
theorem dX2_init_5 : decode cX2_init 5 = .ok (.bipush 12, 2) := by decide +kernel
theorem dX2_init_7 : decode cX2_init 7 = .ok (.newarray .int, 2) := by decide +kernel
theorem dX2_init_9 : decode cX2_init 9 = .ok (.putfield 9, 3) := by decide +kernel
theorem dX2_init_12 : decode cX2_init 12 = .ok (.aload_n 0, 1) := by decide +kernel
theorem dX2_init_13 : decode cX2_init 13 = .ok (.bipush 12, 2) := by decide +kernel
theorem dX2_init_15 : decode cX2_init 15 = .ok (.newarray .int, 2) := by decide +kernel
theorem dX2_init_17 : decode cX2_init 17 = .ok (.putfield 15, 3) := by decide +kernel
theorem dX2_init_20 : decode cX2_init 20 = .ok (.aload_n 0, 1) := by decide +kernel
theorem dX2_init_21 : decode cX2_init 21 = .ok (.bipush 12, 2) := by decide +kernel
theorem dX2_init_23 : decode cX2_init 23 = .ok (.newarray .int, 2) := by decide +kernel
theorem dX2_init_25 : decode cX2_init 25 = .ok (.putfield 18, 3) := by decide +kernel
theorem dX2_init_28 : decode cX2_init 28 = .ok (.return_, 1) := by decide +kernel
theorem dX2_add_0 : decode cX2_add 0 = .ok (.bipush 11, 2) := by decide +kernel
theorem dX2_add_2 : decode cX2_add 2 = .ok (.istore 4, 2) := by decide +kernel
theorem dX2_add_4 : decode cX2_add 4 = .ok (.iload 4, 2) := by decide +kernel
theorem dX2_add_6 : decode cX2_add 6 = .ok (.ifCond .le 57, 3) := by decide +kernel
theorem dX2_add_9 : decode cX2_add 9 = .ok (.aload_n 0, 1) := by decide +kernel
theorem dX2_add_10 : decode cX2_add 10 = .ok (.getfield 9, 3) := by decide +kernel
theorem dX2_add_13 : decode cX2_add 13 = .ok (.iload 4, 2) := by decide +kernel
theorem dX2_add_15 : decode cX2_add 15 = .ok (.aload_n 0, 1) := by decide +kernel
theorem dX2_add_16 : decode cX2_add 16 = .ok (.getfield 9, 3) := by decide +kernel
theorem dX2_add_19 : decode cX2_add 19 = .ok (.iload 4, 2) := by decide +kernel
theorem dX2_add_21 : decode cX2_add 21 = .ok (.iconst 1, 1) := by decide +kernel
theorem dX2_add_22 : decode cX2_add 22 = .ok (.isub, 1) := by decide +kernel
theorem dX2_add_23 : decode cX2_add 23 = .ok (.iaload, 1) := by decide +kernel
theorem dX2_add_24 : decode cX2_add 24 = .ok (.iastore, 1) := by decide +kernel
theorem dX2_add_25 : decode cX2_add 25 = .ok (.aload_n 0, 1) := by decide +kernel
theorem dX2_add_26 : decode cX2_add 26 = .ok (.getfield 15, 3) := by decide +kernel
theorem dX2_add_29 : decode cX2_add 29 = .ok (.iload 4, 2) := by decide +kernel
theorem dX2_add_31 : decode cX2_add 31 = .ok (.aload_n 0, 1) := by decide +kernel
theorem dX2_add_32 : decode cX2_add 32 = .ok (.getfield 15, 3) := by decide +kernel
theorem dX2_add_35 : decode cX2_add 35 = .ok (.iload 4, 2) := by decide +kernel
theorem dX2_add_37 : decode cX2_add 37 = .ok (.iconst 1, 1) := by decide +kernel
theorem dX2_add_38 : decode cX2_add 38 = .ok (.isub, 1) := by decide +kernel
theorem dX2_add_39 : decode cX2_add 39 = .ok (.iaload, 1) := by decide +kernel
theorem dX2_add_40 : decode cX2_add 40 = .ok (.iastore, 1) := by decide +kernel
theorem dX2_add_41 : decode cX2_add 41 = .ok (.aload_n 0, 1) := by decide +kernel
theorem dX2_add_42 : decode cX2_add 42 = .ok (.getfield 18, 3) := by decide +kernel
theorem dX2_add_45 : decode cX2_add 45 = .ok (.iload 4, 2) := by decide +kernel
theorem dX2_add_47 : decode cX2_add 47 = .ok (.aload_n 0, 1) := by decide +kernel
theorem dX2_add_48 : decode cX2_add 48 = .ok (.getfield 18, 3) := by decide +kernel
theorem dX2_add_51 : decode cX2_add 51 = .ok (.iload 4, 2) := by decide +kernel
theorem dX2_add_53 : decode cX2_add 53 = .ok (.iconst 1, 1) := by decide +kernel
theorem dX2_add_54 : decode cX2_add 54 = .ok (.isub, 1) := by decide +kernel
theorem dX2_add_55 : decode cX2_add 55 = .ok (.iaload, 1) := by decide +kernel
theorem dX2_add_56 : decode cX2_add 56 = .ok (.iastore, 1) := by decide +kernel
theorem dX2_add_57 : decode cX2_add 57 = .ok (.iinc 4 (-1), 3) := by decide +kernel
theorem dX2_add_60 : decode cX2_add 60 = .ok (.goto (-56), 3) := by decide +kernel
theorem dX2_add_63 : decode cX2_add 63 = .ok (.aload_n 0, 1) := by decide +kernel
theorem dX2_add_64 : decode cX2_add 64 = .ok (.getfield 9, 3) := by decide +kernel
theorem dX2_add_67 : decode cX2_add 67 = .ok (.iconst 0, 1) := by decide +kernel
theorem dX2_add_68 : decode cX2_add 68 = .ok (.iload_n 1, 1) := by decide +kernel
theorem dX2_add_69 : decode cX2_add 69 = .ok (.iastore, 1) := by decide +kernel
theorem dX2_add_70 : decode cX2_add 70 = .ok (.aload_n 0, 1) := by decide +kernel
theorem dX2_add_71 : decode cX2_add 71 = .ok (.getfield 15, 3) := by decide +kernel
theorem dX2_add_74 : decode cX2_add 74 = .ok (.iconst 0, 1) := by decide +kernel
theorem dX2_add_75 : decode cX2_add 75 = .ok (.iload_n 2, 1) := by decide +kernel
theorem dX2_add_76 : decode cX2_add 76 = .ok (.iastore, 1) := by decide +kernel
theorem dX2_add_77 : decode cX2_add 77 = .ok (.aload_n 0, 1) := by decide +kernel
theorem dX2_add_78 : decode cX2_add 78 = .ok (.getfield 18, 3) := by decide +kernel
theorem dX2_add_81 : decode cX2_add 81 = .ok (.iconst 0, 1) := by decide +kernel
theorem dX2_add_82 : decode cX2_add 82 = .ok (.iload_n 3, 1) := by decide +kernel
theorem dX2_add_83 : decode cX2_add 83 = .ok (.iastore, 1) := by decide +kernel
theorem dX2_add_84 : decode cX2_add 84 = .ok (.aload_n 0, 1) := by decide +kernel
theorem dX2_add_85 : decode cX2_add 85 = .ok (.aload_n 0, 1) := by decide +kernel
theorem dX2_add_86 : decode cX2_add 86 = .ok (.getfield 21, 3) := by decide +kernel
theorem dX2_add_89 : decode cX2_add 89 = .ok (.iconst 1, 1) := by decide +kernel
theorem dX2_add_90 : decode cX2_add 90 = .ok (.iadd, 1) := by decide +kernel
theorem dX2_add_91 : decode cX2_add 91 = .ok (.bipush 12, 2) := by decide +kernel
theorem dX2_add_93 : decode cX2_add 93 = .ok (.invokestatic 25, 3) := by decide +kernel
theorem dX2_add_96 : decode cX2_add 96 = .ok (.putfield 21, 3) := by decide +kernel
theorem dX2_add_99 : decode cX2_add 99 = .ok (.return_, 1) := by decide +kernel
theorem dX2_copyFrom_0 : decode cX2_copyFrom 0 = .ok (.aload_n 0, 1) := by decide +kernel
theorem dX2_copyFrom_1 : decode cX2_copyFrom 1 = .ok (.aload_n 1, 1) := by decide +kernel
theorem dX2_copyFrom_2 : decode cX2_copyFrom 2 = .ok (.getfield 21, 3) := by decide +kernel
theorem dX2_copyFrom_5 : decode cX2_copyFrom 5 = .ok (.putfield 21, 3) := by decide +kernel
theorem dX2_copyFrom_8 : decode cX2_copyFrom 8 = .ok (.aload_n 1, 1) := by decide +kernel
theorem dX2_copyFrom_9 : decode cX2_copyFrom 9 = .ok (.getfield 9, 3) := by decide +kernel
theorem dX2_copyFrom_12 : decode cX2_copyFrom 12 = .ok (.iconst 0, 1) := by decide +kernel
theorem dX2_copyFrom_13 : decode cX2_copyFrom 13 = .ok (.aload_n 0, 1) := by decide +kernel
theorem dX2_copyFrom_14 : decode cX2_copyFrom 14 = .ok (.getfield 9, 3) := by decide +kernel
theorem dX2_copyFrom_17 : decode cX2_copyFrom 17 = .ok (.iconst 0, 1) := by decide +kernel
theorem dX2_copyFrom_18 : decode cX2_copyFrom 18 = .ok (.aload_n 0, 1) := by decide +kernel
theorem dX2_copyFrom_19 : decode cX2_copyFrom 19 = .ok (.getfield 9, 3) := by decide +kernel
theorem dX2_copyFrom_22 : decode cX2_copyFrom 22 = .ok (.arraylength, 1) := by decide +kernel
theorem dX2_copyFrom_23 : decode cX2_copyFrom 23 = .ok (.invokestatic 35, 3) := by decide +kernel
theorem dX2_copyFrom_26 : decode cX2_copyFrom 26 = .ok (.aload_n 1, 1) := by decide +kernel
theorem dX2_copyFrom_27 : decode cX2_copyFrom 27 = .ok (.getfield 15, 3) := by decide +kernel
theorem dX2_copyFrom_30 : decode cX2_copyFrom 30 = .ok (.iconst 0, 1) := by decide +kernel
theorem dX2_copyFrom_31 : decode cX2_copyFrom 31 = .ok (.aload_n 0, 1) := by decide +kernel
theorem dX2_copyFrom_32 : decode cX2_copyFrom 32 = .ok (.getfield 15, 3) := by decide +kernel
theorem dX2_copyFrom_35 : decode cX2_copyFrom 35 = .ok (.iconst 0, 1) := by decide +kernel
theorem dX2_copyFrom_36 : decode cX2_copyFrom 36 = .ok (.aload_n 0, 1) := by decide +kernel
theorem dX2_copyFrom_37 : decode cX2_copyFrom 37 = .ok (.getfield 15, 3) := by decide +kernel
theorem dX2_copyFrom_40 : decode cX2_copyFrom 40 = .ok (.arraylength, 1) := by decide +kernel
theorem dX2_copyFrom_41 : decode cX2_copyFrom 41 = .ok (.invokestatic 35, 3) := by decide +kernel
theorem dX2_copyFrom_44 : decode cX2_copyFrom 44 = .ok (.aload_n 1, 1) := by decide +kernel
theorem dX2_copyFrom_45 : decode cX2_copyFrom 45 = .ok (.getfield 18, 3) := by decide +kernel
theorem dX2_copyFrom_48 : decode cX2_copyFrom 48 = .ok (.iconst 0, 1) := by decide +kernel
theorem dX2_copyFrom_49 : decode cX2_copyFrom 49 = .ok (.aload_n 0, 1) := by decide +kernel
theorem dX2_copyFrom_50 : decode cX2_copyFrom 50 = .ok (.getfield 18, 3) := by decide +kernel
theorem dX2_copyFrom_53 : decode cX2_copyFrom 53 = .ok (.iconst 0, 1) := by decide +kernel
theorem dX2_copyFrom_54 : decode cX2_copyFrom 54 = .ok (.aload_n 0, 1) := by decide +kernel
theorem dX2_copyFrom_55 : decode cX2_copyFrom 55 = .ok (.getfield 18, 3) := by decide +kernel
theorem dX2_copyFrom_58 : decode cX2_copyFrom 58 = .ok (.arraylength, 1) := by decide +kernel
theorem dX2_copyFrom_59 : decode cX2_copyFrom 59 = .ok (.invokestatic 35, 3) := by decide +kernel
theorem dX2_copyFrom_62 : decode cX2_copyFrom 62 = .ok (.return_, 1) := by decide +kernel
theorem dX3_init_0 : decode cX3_init 0 = .ok (.aload_n 0, 1) := by decide +kernel
theorem dX3_init_1 : decode cX3_init 1 = .ok (.invokespecial 3, 3) := by decide +kernel
theorem dX3_init_4 : decode cX3_init 4 = .ok (.aload_n 0, 1) := by decide +kernel
theorem dX3_init_5 : decode cX3_init 5 = .ok (.bipush 8, 2) := by decide +kernel
theorem dX3_init_7 : decode cX3_init 7 = .ok (.anewarray 9, 3) := by decide +kernel
theorem dX3_init_10 : decode cX3_init 10 = .ok (.putfield 11, 3) := by decide +kernel
theorem dX3_init_13 : decode cX3_init 13 = .ok (.iconst 0, 1) := by decide +kernel
theorem dX3_init_14 : decode cX3_init 14 = .ok (.istore_n 1, 1) := by decide +kernel
theorem dX3_init_15 : decode cX3_init 15 = .ok (.iload_n 1, 1) := by decide +kernel
theorem dX3_init_16 : decode cX3_init 16 = .ok (.aload_n 0, 1) := by decide +kernel
theorem dX3_init_17 : decode cX3_init 17 = .ok (.getfield 11, 3) := by decide +kernel
theorem dX3_init_20 : decode cX3_init 20 = .ok (.arraylength, 1) := by decide +kernel
theorem dX3_init_21 : decode cX3_init 21 = .ok (.if_icmp .ge 22, 3) := by decide +kernel
theorem dX3_init_24 : decode cX3_init 24 = .ok (.aload_n 0, 1) := by decide +kernel
theorem dX3_init_25 : decode cX3_init 25 = .ok (.getfield 11, 3) := by decide +kernel
theorem dX3_init_28 : decode cX3_init 28 = .ok (.iload_n 1, 1) := by decide +kernel
theorem dX3_init_29 : decode cX3_init 29 = .ok (.new 9, 3) := by decide +kernel
theorem dX3_init_32 : decode cX3_init 32 = .ok (.dup, 1) := by decide +kernel
theorem dX3_init_33 : decode cX3_init 33 = .ok (.invokespecial 17, 3) := by decide +kernel
theorem dX3_init_36 : decode cX3_init 36 = .ok (.aastore, 1) := by decide +kernel
theorem dX3_init_37 : decode cX3_init 37 = .ok (.iinc 1 1, 3) := by decide +kernel
theorem dX3_init_40 : decode cX3_init 40 = .ok (.goto (-25), 3) := by decide +kernel
theorem dX3_init_43 : decode cX3_init 43 = .ok (.return_, 1) := by decide +kernel
theorem dX3_record_0 : decode cX3_record 0 = .ok (.aload_n 0, 1) := by decide +kernel
theorem dX3_record_1 : decode cX3_record 1 = .ok (.getfield 11, 3) := by decide +kernel
theorem dX3_record_4 : decode cX3_record 4 = .ok (.aload_n 0, 1) := by decide +kernel
theorem dX3_record_5 : decode cX3_record 5 = .ok (.getfield 18, 3) := by decide +kernel
theorem dX3_record_8 : decode cX3_record 8 = .ok (.aaload, 1) := by decide +kernel
theorem dX3_record_9 : decode cX3_record 9 = .ok (.aload_n 1, 1) := by decide +kernel
theorem dX3_record_10 : decode cX3_record 10 = .ok (.invokevirtual 22, 3) := by decide +kernel
theorem dX3_record_13 : decode cX3_record 13 = .ok (.aload_n 0, 1) := by decide +kernel
theorem dX3_record_14 : decode cX3_record 14 = .ok (.aload_n 0, 1) := by decide +kernel
theorem dX3_record_15 : decode cX3_record 15 = .ok (.getfield 18, 3) := by decide +kernel
theorem dX3_record_18 : decode cX3_record 18 = .ok (.iconst 1, 1) := by decide +kernel
theorem dX3_record_19 : decode cX3_record 19 = .ok (.iadd, 1) := by decide +kernel
theorem dX3_record_20 : decode cX3_record 20 = .ok (.bipush 8, 2) := by decide +kernel
theorem dX3_record_22 : decode cX3_record 22 = .ok (.irem, 1) := by decide +kernel
theorem dX3_record_23 : decode cX3_record 23 = .ok (.putfield 18, 3) := by decide +kernel
theorem dX3_record_26 : decode cX3_record 26 = .ok (.aload_n 0, 1) := by decide +kernel
theorem dX3_record_27 : decode cX3_record 27 = .ok (.aload_n 0, 1) := by decide +kernel
theorem dX3_record_28 : decode cX3_record 28 = .ok (.getfield 26, 3) := by decide +kernel
theorem dX3_record_31 : decode cX3_record 31 = .ok (.iconst 1, 1) := by decide +kernel
theorem dX3_record_32 : decode cX3_record 32 = .ok (.iadd, 1) := by decide +kernel
theorem dX3_record_33 : decode cX3_record 33 = .ok (.bipush 8, 2) := by decide +kernel
theorem dX3_record_35 : decode cX3_record 35 = .ok (.invokestatic 29, 3) := by decide +kernel
theorem dX3_record_38 : decode cX3_record 38 = .ok (.putfield 26, 3) := by decide +kernel
theorem dX3_record_41 : decode cX3_record 41 = .ok (.return_, 1) := by decide +kernel
theorem dX3_forget_0 : decode cX3_forget 0 = .ok (.aload_n 0, 1) := by decide +kernel
theorem dX3_forget_1 : decode cX3_forget 1 = .ok (.iconst 0, 1) := by decide +kernel
theorem dX3_forget_2 : decode cX3_forget 2 = .ok (.putfield 26, 3) := by decide +kernel
theorem dX3_forget_5 : decode cX3_forget 5 = .ok (.return_, 1) := by decide +kernel
theorem dX4_init_0 : decode cX4_init 0 = .ok (.aload_n 0, 1) := by decide +kernel
theorem dX4_init_1 : decode cX4_init 1 = .ok (.invokespecial 3, 3) := by decide +kernel
theorem dX4_init_4 : decode cX4_init 4 = .ok (.aload_n 0, 1) := by decide +kernel
theorem dX4_init_5 : decode cX4_init 5 = .ok (.iconst 5, 1) := by decide +kernel
theorem dX4_init_6 : decode cX4_init 6 = .ok (.anewarray 9, 3) := by decide +kernel
theorem dX4_init_9 : decode cX4_init 9 = .ok (.putfield 11, 3) := by decide +kernel
theorem dX4_init_12 : decode cX4_init 12 = .ok (.aload_n 0, 1) := by decide +kernel
theorem dX4_init_13 : decode cX4_init 13 = .ok (.bipush 24, 2) := by decide +kernel
theorem dX4_init_15 : decode cX4_init 15 = .ok (.anewarray 17, 3) := by decide +kernel
theorem dX4_init_18 : decode cX4_init 18 = .ok (.putfield 19, 3) := by decide +kernel
theorem dX4_init_21 : decode cX4_init 21 = .ok (.aload_n 0, 1) := by decide +kernel
theorem dX4_init_22 : decode cX4_init 22 = .ok (.new 23, 3) := by decide +kernel
theorem dX4_init_25 : decode cX4_init 25 = .ok (.dup, 1) := by decide +kernel
theorem dX4_init_26 : decode cX4_init 26 = .ok (.invokespecial 25, 3) := by decide +kernel
theorem dX4_init_29 : decode cX4_init 29 = .ok (.putfield 26, 3) := by decide +kernel
theorem dX4_init_32 : decode cX4_init 32 = .ok (.iconst 0, 1) := by decide +kernel
theorem dX4_init_33 : decode cX4_init 33 = .ok (.istore_n 1, 1) := by decide +kernel
theorem dX4_init_34 : decode cX4_init 34 = .ok (.iload_n 1, 1) := by decide +kernel
theorem dX4_init_35 : decode cX4_init 35 = .ok (.aload_n 0, 1) := by decide +kernel
theorem dX4_init_36 : decode cX4_init 36 = .ok (.getfield 11, 3) := by decide +kernel
theorem dX4_init_39 : decode cX4_init 39 = .ok (.arraylength, 1) := by decide +kernel
theorem dX4_init_40 : decode cX4_init 40 = .ok (.if_icmp .ge 23, 3) := by decide +kernel
theorem dX4_init_43 : decode cX4_init 43 = .ok (.aload_n 0, 1) := by decide +kernel
theorem dX4_init_44 : decode cX4_init 44 = .ok (.getfield 11, 3) := by decide +kernel
theorem dX4_init_47 : decode cX4_init 47 = .ok (.iload_n 1, 1) := by decide +kernel
theorem dX4_init_48 : decode cX4_init 48 = .ok (.new 9, 3) := by decide +kernel
theorem dX4_init_51 : decode cX4_init 51 = .ok (.dup, 1) := by decide +kernel
theorem dX4_init_52 : decode cX4_init 52 = .ok (.iload_n 1, 1) := by decide +kernel
theorem dX4_init_53 : decode cX4_init 53 = .ok (.invokespecial 30, 3) := by decide +kernel
theorem dX4_init_56 : decode cX4_init 56 = .ok (.aastore, 1) := by decide +kernel
theorem dX4_init_57 : decode cX4_init 57 = .ok (.iinc 1 1, 3) := by decide +kernel
theorem dX4_init_60 : decode cX4_init 60 = .ok (.goto (-26), 3) := by decide +kernel
theorem dX4_init_63 : decode cX4_init 63 = .ok (.iconst 0, 1) := by decide +kernel
theorem dX4_init_64 : decode cX4_init 64 = .ok (.istore_n 1, 1) := by decide +kernel
theorem dX4_init_65 : decode cX4_init 65 = .ok (.iload_n 1, 1) := by decide +kernel
theorem dX4_init_66 : decode cX4_init 66 = .ok (.aload_n 0, 1) := by decide +kernel
theorem dX4_init_67 : decode cX4_init 67 = .ok (.getfield 19, 3) := by decide +kernel
theorem dX4_init_70 : decode cX4_init 70 = .ok (.arraylength, 1) := by decide +kernel
theorem dX4_init_71 : decode cX4_init 71 = .ok (.if_icmp .ge 23, 3) := by decide +kernel
theorem dX4_init_74 : decode cX4_init 74 = .ok (.aload_n 0, 1) := by decide +kernel
theorem dX4_init_75 : decode cX4_init 75 = .ok (.getfield 19, 3) := by decide +kernel
theorem dX4_init_78 : decode cX4_init 78 = .ok (.iload_n 1, 1) := by decide +kernel
theorem dX4_init_79 : decode cX4_init 79 = .ok (.new 17, 3) := by decide +kernel
theorem dX4_init_82 : decode cX4_init 82 = .ok (.dup, 1) := by decide +kernel
theorem dX4_init_83 : decode cX4_init 83 = .ok (.iload_n 1, 1) := by decide +kernel
theorem dX4_init_84 : decode cX4_init 84 = .ok (.invokespecial 33, 3) := by decide +kernel
theorem dX4_init_87 : decode cX4_init 87 = .ok (.aastore, 1) := by decide +kernel
theorem dX4_init_88 : decode cX4_init 88 = .ok (.iinc 1 1, 3) := by decide +kernel
theorem dX4_init_91 : decode cX4_init 91 = .ok (.goto (-26), 3) := by decide +kernel
theorem dX4_init_94 : decode cX4_init 94 = .ok (.return_, 1) := by decide +kernel
theorem dX4_clear_0 : decode cX4_clear 0 = .ok (.aload_n 0, 1) := by decide +kernel
theorem dX4_clear_1 : decode cX4_clear 1 = .ok (.iconst 0, 1) := by decide +kernel
theorem dX4_clear_2 : decode cX4_clear 2 = .ok (.putfield 34, 3) := by decide +kernel
theorem dX4_clear_5 : decode cX4_clear 5 = .ok (.aload_n 0, 1) := by decide +kernel
theorem dX4_clear_6 : decode cX4_clear 6 = .ok (.iconst 0, 1) := by decide +kernel
theorem dX4_clear_7 : decode cX4_clear 7 = .ok (.putfield 38, 3) := by decide +kernel
theorem dX4_clear_10 : decode cX4_clear 10 = .ok (.aload_n 0, 1) := by decide +kernel
theorem dX4_clear_11 : decode cX4_clear 11 = .ok (.iconst 0, 1) := by decide +kernel
theorem dX4_clear_12 : decode cX4_clear 12 = .ok (.putfield 41, 3) := by decide +kernel
theorem dX4_clear_15 : decode cX4_clear 15 = .ok (.aload_n 0, 1) := by decide +kernel
theorem dX4_clear_16 : decode cX4_clear 16 = .ok (.iconst 0, 1) := by decide +kernel
theorem dX4_clear_17 : decode cX4_clear 17 = .ok (.putfield 44, 3) := by decide +kernel
theorem dX4_clear_20 : decode cX4_clear 20 = .ok (.aload_n 0, 1) := by decide +kernel
theorem dX4_clear_21 : decode cX4_clear 21 = .ok (.iconst 0, 1) := by decide +kernel
theorem dX4_clear_22 : decode cX4_clear 22 = .ok (.putfield 47, 3) := by decide +kernel
theorem dX4_clear_25 : decode cX4_clear 25 = .ok (.aload_n 0, 1) := by decide +kernel
theorem dX4_clear_26 : decode cX4_clear 26 = .ok (.iconst 0, 1) := by decide +kernel
theorem dX4_clear_27 : decode cX4_clear 27 = .ok (.putfield 50, 3) := by decide +kernel
theorem dX4_clear_30 : decode cX4_clear 30 = .ok (.aload_n 0, 1) := by decide +kernel
theorem dX4_clear_31 : decode cX4_clear 31 = .ok (.getfield 26, 3) := by decide +kernel
theorem dX4_clear_34 : decode cX4_clear 34 = .ok (.iconst 0, 1) := by decide +kernel
theorem dX4_clear_35 : decode cX4_clear 35 = .ok (.putfield 53, 3) := by decide +kernel
theorem dX4_clear_38 : decode cX4_clear 38 = .ok (.return_, 1) := by decide +kernel
theorem dX4_copyFrom_0 : decode cX4_copyFrom 0 = .ok (.aload_n 0, 1) := by decide +kernel
theorem dX4_copyFrom_1 : decode cX4_copyFrom 1 = .ok (.aload_n 1, 1) := by decide +kernel
theorem dX4_copyFrom_2 : decode cX4_copyFrom 2 = .ok (.getfield 34, 3) := by decide +kernel
theorem dX4_copyFrom_5 : decode cX4_copyFrom 5 = .ok (.putfield 34, 3) := by decide +kernel
theorem dX4_copyFrom_8 : decode cX4_copyFrom 8 = .ok (.aload_n 0, 1) := by decide +kernel
theorem dX4_copyFrom_9 : decode cX4_copyFrom 9 = .ok (.aload_n 1, 1) := by decide +kernel
theorem dX4_copyFrom_10 : decode cX4_copyFrom 10 = .ok (.getfield 56, 3) := by decide +kernel
theorem dX4_copyFrom_13 : decode cX4_copyFrom 13 = .ok (.putfield 56, 3) := by decide +kernel
theorem dX4_copyFrom_16 : decode cX4_copyFrom 16 = .ok (.aload_n 0, 1) := by decide +kernel
theorem dX4_copyFrom_17 : decode cX4_copyFrom 17 = .ok (.aload_n 1, 1) := by decide +kernel
theorem dX4_copyFrom_18 : decode cX4_copyFrom 18 = .ok (.getfield 59, 3) := by decide +kernel
theorem dX4_copyFrom_21 : decode cX4_copyFrom 21 = .ok (.putfield 59, 3) := by decide +kernel
theorem dX4_copyFrom_24 : decode cX4_copyFrom 24 = .ok (.aload_n 0, 1) := by decide +kernel
theorem dX4_copyFrom_25 : decode cX4_copyFrom 25 = .ok (.aload_n 1, 1) := by decide +kernel
theorem dX4_copyFrom_26 : decode cX4_copyFrom 26 = .ok (.getfield 62, 3) := by decide +kernel
theorem dX4_copyFrom_29 : decode cX4_copyFrom 29 = .ok (.putfield 62, 3) := by decide +kernel
theorem dX4_copyFrom_32 : decode cX4_copyFrom 32 = .ok (.aload_n 0, 1) := by decide +kernel
theorem dX4_copyFrom_33 : decode cX4_copyFrom 33 = .ok (.aload_n 1, 1) := by decide +kernel
theorem dX4_copyFrom_34 : decode cX4_copyFrom 34 = .ok (.getfield 65, 3) := by decide +kernel
theorem dX4_copyFrom_37 : decode cX4_copyFrom 37 = .ok (.putfield 65, 3) := by decide +kernel
theorem dX4_copyFrom_40 : decode cX4_copyFrom 40 = .ok (.aload_n 0, 1) := by decide +kernel
theorem dX4_copyFrom_41 : decode cX4_copyFrom 41 = .ok (.aload_n 1, 1) := by decide +kernel
theorem dX4_copyFrom_42 : decode cX4_copyFrom 42 = .ok (.getfield 68, 3) := by decide +kernel
theorem dX4_copyFrom_45 : decode cX4_copyFrom 45 = .ok (.putfield 68, 3) := by decide +kernel
theorem dX4_copyFrom_48 : decode cX4_copyFrom 48 = .ok (.aload_n 0, 1) := by decide +kernel
theorem dX4_copyFrom_49 : decode cX4_copyFrom 49 = .ok (.aload_n 1, 1) := by decide +kernel
theorem dX4_copyFrom_50 : decode cX4_copyFrom 50 = .ok (.getfield 71, 3) := by decide +kernel
theorem dX4_copyFrom_53 : decode cX4_copyFrom 53 = .ok (.putfield 71, 3) := by decide +kernel
theorem dX4_copyFrom_56 : decode cX4_copyFrom 56 = .ok (.aload_n 0, 1) := by decide +kernel
theorem dX4_copyFrom_57 : decode cX4_copyFrom 57 = .ok (.aload_n 1, 1) := by decide +kernel
theorem dX4_copyFrom_58 : decode cX4_copyFrom 58 = .ok (.getfield 74, 3) := by decide +kernel
theorem dX4_copyFrom_61 : decode cX4_copyFrom 61 = .ok (.putfield 74, 3) := by decide +kernel
theorem dX4_copyFrom_64 : decode cX4_copyFrom 64 = .ok (.aload_n 0, 1) := by decide +kernel
theorem dX4_copyFrom_65 : decode cX4_copyFrom 65 = .ok (.aload_n 1, 1) := by decide +kernel
theorem dX4_copyFrom_66 : decode cX4_copyFrom 66 = .ok (.getfield 38, 3) := by decide +kernel
theorem dX4_copyFrom_69 : decode cX4_copyFrom 69 = .ok (.putfield 38, 3) := by decide +kernel
theorem dX4_copyFrom_72 : decode cX4_copyFrom 72 = .ok (.aload_n 0, 1) := by decide +kernel
theorem dX4_copyFrom_73 : decode cX4_copyFrom 73 = .ok (.aload_n 1, 1) := by decide +kernel
theorem dX4_copyFrom_74 : decode cX4_copyFrom 74 = .ok (.getfield 41, 3) := by decide +kernel
theorem dX4_copyFrom_77 : decode cX4_copyFrom 77 = .ok (.putfield 41, 3) := by decide +kernel
theorem dX4_copyFrom_80 : decode cX4_copyFrom 80 = .ok (.aload_n 0, 1) := by decide +kernel
theorem dX4_copyFrom_81 : decode cX4_copyFrom 81 = .ok (.aload_n 1, 1) := by decide +kernel
theorem dX4_copyFrom_82 : decode cX4_copyFrom 82 = .ok (.getfield 44, 3) := by decide +kernel
theorem dX4_copyFrom_85 : decode cX4_copyFrom 85 = .ok (.putfield 44, 3) := by decide +kernel
theorem dX4_copyFrom_88 : decode cX4_copyFrom 88 = .ok (.aload_n 0, 1) := by decide +kernel
theorem dX4_copyFrom_89 : decode cX4_copyFrom 89 = .ok (.aload_n 1, 1) := by decide +kernel
theorem dX4_copyFrom_90 : decode cX4_copyFrom 90 = .ok (.getfield 47, 3) := by decide +kernel
theorem dX4_copyFrom_93 : decode cX4_copyFrom 93 = .ok (.putfield 47, 3) := by decide +kernel
theorem dX4_copyFrom_96 : decode cX4_copyFrom 96 = .ok (.aload_n 0, 1) := by decide +kernel
theorem dX4_copyFrom_97 : decode cX4_copyFrom 97 = .ok (.aload_n 1, 1) := by decide +kernel
theorem dX4_copyFrom_98 : decode cX4_copyFrom 98 = .ok (.getfield 50, 3) := by decide +kernel
theorem dX4_copyFrom_101 : decode cX4_copyFrom 101 = .ok (.putfield 50, 3) := by decide +kernel
theorem dX4_copyFrom_104 : decode cX4_copyFrom 104 = .ok (.iconst 0, 1) := by decide +kernel
theorem dX4_copyFrom_105 : decode cX4_copyFrom 105 = .ok (.istore_n 2, 1) := by decide +kernel
theorem dX4_copyFrom_106 : decode cX4_copyFrom 106 = .ok (.iload_n 2, 1) := by decide +kernel
theorem dX4_copyFrom_107 : decode cX4_copyFrom 107 = .ok (.aload_n 0, 1) := by decide +kernel
theorem dX4_copyFrom_108 : decode cX4_copyFrom 108 = .ok (.getfield 11, 3) := by decide +kernel
theorem dX4_copyFrom_111 : decode cX4_copyFrom 111 = .ok (.arraylength, 1) := by decide +kernel
theorem dX4_copyFrom_112 : decode cX4_copyFrom 112 = .ok (.if_icmp .ge 24, 3) := by decide +kernel
theorem dX4_copyFrom_115 : decode cX4_copyFrom 115 = .ok (.aload_n 0, 1) := by decide +kernel
theorem dX4_copyFrom_116 : decode cX4_copyFrom 116 = .ok (.getfield 11, 3) := by decide +kernel
theorem dX4_copyFrom_119 : decode cX4_copyFrom 119 = .ok (.iload_n 2, 1) := by decide +kernel
theorem dX4_copyFrom_120 : decode cX4_copyFrom 120 = .ok (.aaload, 1) := by decide +kernel
theorem dX4_copyFrom_121 : decode cX4_copyFrom 121 = .ok (.aload_n 1, 1) := by decide +kernel
theorem dX4_copyFrom_122 : decode cX4_copyFrom 122 = .ok (.getfield 11, 3) := by decide +kernel
theorem dX4_copyFrom_125 : decode cX4_copyFrom 125 = .ok (.iload_n 2, 1) := by decide +kernel
theorem dX4_copyFrom_126 : decode cX4_copyFrom 126 = .ok (.aaload, 1) := by decide +kernel
theorem dX4_copyFrom_127 : decode cX4_copyFrom 127 = .ok (.invokevirtual 77, 3) := by decide +kernel
theorem dX4_copyFrom_130 : decode cX4_copyFrom 130 = .ok (.iinc 2 1, 3) := by decide +kernel
theorem dX4_copyFrom_133 : decode cX4_copyFrom 133 = .ok (.goto (-27), 3) := by decide +kernel
theorem dX4_copyFrom_136 : decode cX4_copyFrom 136 = .ok (.iconst 0, 1) := by decide +kernel
theorem dX4_copyFrom_137 : decode cX4_copyFrom 137 = .ok (.istore_n 2, 1) := by decide +kernel
theorem dX4_copyFrom_138 : decode cX4_copyFrom 138 = .ok (.iload_n 2, 1) := by decide +kernel
theorem dX4_copyFrom_139 : decode cX4_copyFrom 139 = .ok (.aload_n 0, 1) := by decide +kernel
theorem dX4_copyFrom_140 : decode cX4_copyFrom 140 = .ok (.getfield 19, 3) := by decide +kernel
theorem dX4_copyFrom_143 : decode cX4_copyFrom 143 = .ok (.arraylength, 1) := by decide +kernel
theorem dX4_copyFrom_144 : decode cX4_copyFrom 144 = .ok (.if_icmp .ge 24, 3) := by decide +kernel
theorem dX4_copyFrom_147 : decode cX4_copyFrom 147 = .ok (.aload_n 0, 1) := by decide +kernel
theorem dX4_copyFrom_148 : decode cX4_copyFrom 148 = .ok (.getfield 19, 3) := by decide +kernel
theorem dX4_copyFrom_151 : decode cX4_copyFrom 151 = .ok (.iload_n 2, 1) := by decide +kernel
theorem dX4_copyFrom_152 : decode cX4_copyFrom 152 = .ok (.aaload, 1) := by decide +kernel
theorem dX4_copyFrom_153 : decode cX4_copyFrom 153 = .ok (.aload_n 1, 1) := by decide +kernel
theorem dX4_copyFrom_154 : decode cX4_copyFrom 154 = .ok (.getfield 19, 3) := by decide +kernel
theorem dX4_copyFrom_157 : decode cX4_copyFrom 157 = .ok (.iload_n 2, 1) := by decide +kernel
theorem dX4_copyFrom_158 : decode cX4_copyFrom 158 = .ok (.aaload, 1) := by decide +kernel
theorem dX4_copyFrom_159 : decode cX4_copyFrom 159 = .ok (.invokevirtual 81, 3) := by decide +kernel
theorem dX4_copyFrom_162 : decode cX4_copyFrom 162 = .ok (.iinc 2 1, 3) := by decide +kernel
theorem dX4_copyFrom_165 : decode cX4_copyFrom 165 = .ok (.goto (-27), 3) := by decide +kernel
theorem dX4_copyFrom_168 : decode cX4_copyFrom 168 = .ok (.aload_n 0, 1) := by decide +kernel
theorem dX4_copyFrom_169 : decode cX4_copyFrom 169 = .ok (.getfield 26, 3) := by decide +kernel
theorem dX4_copyFrom_172 : decode cX4_copyFrom 172 = .ok (.aload_n 1, 1) := by decide +kernel
theorem dX4_copyFrom_173 : decode cX4_copyFrom 173 = .ok (.getfield 26, 3) := by decide +kernel
theorem dX4_copyFrom_176 : decode cX4_copyFrom 176 = .ok (.invokevirtual 84, 3) := by decide +kernel
theorem dX4_copyFrom_179 : decode cX4_copyFrom 179 = .ok (.return_, 1) := by decide +kernel
theorem dX4_boardNumbered_0 : decode cX4_boardNumbered 0 = .ok (.iload_n 1, 1) := by decide +kernel
theorem dX4_boardNumbered_1 : decode cX4_boardNumbered 1 = .ok (.ifCond .lt 29, 3) := by decide +kernel
theorem dX4_boardNumbered_4 : decode cX4_boardNumbered 4 = .ok (.iload_n 1, 1) := by decide +kernel
theorem dX4_boardNumbered_5 : decode cX4_boardNumbered 5 = .ok (.aload_n 0, 1) := by decide +kernel
theorem dX4_boardNumbered_6 : decode cX4_boardNumbered 6 = .ok (.getfield 47, 3) := by decide +kernel
theorem dX4_boardNumbered_9 : decode cX4_boardNumbered 9 = .ok (.if_icmp .ge 21, 3) := by decide +kernel
theorem dX4_boardNumbered_12 : decode cX4_boardNumbered 12 = .ok (.iload_n 1, 1) := by decide +kernel
theorem dX4_boardNumbered_13 : decode cX4_boardNumbered 13 = .ok (.aload_n 0, 1) := by decide +kernel
theorem dX4_boardNumbered_14 : decode cX4_boardNumbered 14 = .ok (.getfield 11, 3) := by decide +kernel
theorem dX4_boardNumbered_17 : decode cX4_boardNumbered 17 = .ok (.arraylength, 1) := by decide +kernel
theorem dX4_boardNumbered_18 : decode cX4_boardNumbered 18 = .ok (.if_icmp .ge 12, 3) := by decide +kernel
theorem dX4_boardNumbered_21 : decode cX4_boardNumbered 21 = .ok (.aload_n 0, 1) := by decide +kernel
theorem dX4_boardNumbered_22 : decode cX4_boardNumbered 22 = .ok (.getfield 11, 3) := by decide +kernel
theorem dX4_boardNumbered_25 : decode cX4_boardNumbered 25 = .ok (.iload_n 1, 1) := by decide +kernel
theorem dX4_boardNumbered_26 : decode cX4_boardNumbered 26 = .ok (.aaload, 1) := by decide +kernel
theorem dX4_boardNumbered_27 : decode cX4_boardNumbered 27 = .ok (.goto 4, 3) := by decide +kernel
theorem dX4_boardNumbered_30 : decode cX4_boardNumbered 30 = .ok (.aconst_null, 1) := by decide +kernel
theorem dX4_boardNumbered_31 : decode cX4_boardNumbered 31 = .ok (.areturn, 1) := by decide +kernel
theorem dX4_traderNumbered_0 : decode cX4_traderNumbered 0 = .ok (.iload_n 1, 1) := by decide +kernel
theorem dX4_traderNumbered_1 : decode cX4_traderNumbered 1 = .ok (.ifCond .lt 29, 3) := by decide +kernel
theorem dX4_traderNumbered_4 : decode cX4_traderNumbered 4 = .ok (.iload_n 1, 1) := by decide +kernel
theorem dX4_traderNumbered_5 : decode cX4_traderNumbered 5 = .ok (.aload_n 0, 1) := by decide +kernel
theorem dX4_traderNumbered_6 : decode cX4_traderNumbered 6 = .ok (.getfield 50, 3) := by decide +kernel
theorem dX4_traderNumbered_9 : decode cX4_traderNumbered 9 = .ok (.if_icmp .ge 21, 3) := by decide +kernel
theorem dX4_traderNumbered_12 : decode cX4_traderNumbered 12 = .ok (.iload_n 1, 1) := by decide +kernel
theorem dX4_traderNumbered_13 : decode cX4_traderNumbered 13 = .ok (.aload_n 0, 1) := by decide +kernel
theorem dX4_traderNumbered_14 : decode cX4_traderNumbered 14 = .ok (.getfield 19, 3) := by decide +kernel
theorem dX4_traderNumbered_17 : decode cX4_traderNumbered 17 = .ok (.arraylength, 1) := by decide +kernel
theorem dX4_traderNumbered_18 : decode cX4_traderNumbered 18 = .ok (.if_icmp .ge 12, 3) := by decide +kernel
theorem dX4_traderNumbered_21 : decode cX4_traderNumbered 21 = .ok (.aload_n 0, 1) := by decide +kernel
theorem dX4_traderNumbered_22 : decode cX4_traderNumbered 22 = .ok (.getfield 19, 3) := by decide +kernel
theorem dX4_traderNumbered_25 : decode cX4_traderNumbered 25 = .ok (.iload_n 1, 1) := by decide +kernel
theorem dX4_traderNumbered_26 : decode cX4_traderNumbered 26 = .ok (.aaload, 1) := by decide +kernel
theorem dX4_traderNumbered_27 : decode cX4_traderNumbered 27 = .ok (.goto 4, 3) := by decide +kernel
theorem dX4_traderNumbered_30 : decode cX4_traderNumbered 30 = .ok (.aconst_null, 1) := by decide +kernel
theorem dX4_traderNumbered_31 : decode cX4_traderNumbered 31 = .ok (.areturn, 1) := by decide +kernel
theorem dX4_traderNamed_0 : decode cX4_traderNamed 0 = .ok (.iconst 0, 1) := by decide +kernel
theorem dX4_traderNamed_1 : decode cX4_traderNamed 1 = .ok (.istore_n 3, 1) := by decide +kernel
theorem dX4_traderNamed_2 : decode cX4_traderNamed 2 = .ok (.iload_n 3, 1) := by decide +kernel
theorem dX4_traderNamed_3 : decode cX4_traderNamed 3 = .ok (.aload_n 0, 1) := by decide +kernel
theorem dX4_traderNamed_4 : decode cX4_traderNamed 4 = .ok (.getfield 50, 3) := by decide +kernel
theorem dX4_traderNamed_7 : decode cX4_traderNamed 7 = .ok (.if_icmp .ge 30, 3) := by decide +kernel
theorem dX4_traderNamed_10 : decode cX4_traderNamed 10 = .ok (.aload_n 0, 1) := by decide +kernel
theorem dX4_traderNamed_11 : decode cX4_traderNamed 11 = .ok (.getfield 19, 3) := by decide +kernel
theorem dX4_traderNamed_14 : decode cX4_traderNamed 14 = .ok (.iload_n 3, 1) := by decide +kernel
theorem dX4_traderNamed_15 : decode cX4_traderNamed 15 = .ok (.aaload, 1) := by decide +kernel
theorem dX4_traderNamed_16 : decode cX4_traderNamed 16 = .ok (.getfield 87, 3) := by decide +kernel
theorem dX4_traderNamed_19 : decode cX4_traderNamed 19 = .ok (.lload_n 1, 1) := by decide +kernel
theorem dX4_traderNamed_20 : decode cX4_traderNamed 20 = .ok (.lcmp, 1) := by decide +kernel
theorem dX4_traderNamed_21 : decode cX4_traderNamed 21 = .ok (.ifCond .ne 10, 3) := by decide +kernel
theorem dX4_traderNamed_24 : decode cX4_traderNamed 24 = .ok (.aload_n 0, 1) := by decide +kernel
theorem dX4_traderNamed_25 : decode cX4_traderNamed 25 = .ok (.getfield 19, 3) := by decide +kernel
theorem dX4_traderNamed_28 : decode cX4_traderNamed 28 = .ok (.iload_n 3, 1) := by decide +kernel
theorem dX4_traderNamed_29 : decode cX4_traderNamed 29 = .ok (.aaload, 1) := by decide +kernel
theorem dX4_traderNamed_30 : decode cX4_traderNamed 30 = .ok (.areturn, 1) := by decide +kernel
theorem dX4_traderNamed_31 : decode cX4_traderNamed 31 = .ok (.iinc 3 1, 3) := by decide +kernel
theorem dX4_traderNamed_34 : decode cX4_traderNamed 34 = .ok (.goto (-32), 3) := by decide +kernel
theorem dX4_traderNamed_37 : decode cX4_traderNamed 37 = .ok (.aconst_null, 1) := by decide +kernel
theorem dX4_traderNamed_38 : decode cX4_traderNamed 38 = .ok (.areturn, 1) := by decide +kernel
theorem dX4_addBoard_0 : decode cX4_addBoard 0 = .ok (.aload_n 0, 1) := by decide +kernel
theorem dX4_addBoard_1 : decode cX4_addBoard 1 = .ok (.getfield 47, 3) := by decide +kernel
theorem dX4_addBoard_4 : decode cX4_addBoard 4 = .ok (.aload_n 0, 1) := by decide +kernel
theorem dX4_addBoard_5 : decode cX4_addBoard 5 = .ok (.getfield 11, 3) := by decide +kernel
theorem dX4_addBoard_8 : decode cX4_addBoard 8 = .ok (.arraylength, 1) := by decide +kernel
theorem dX4_addBoard_9 : decode cX4_addBoard 9 = .ok (.if_icmp .ge 28, 3) := by decide +kernel
theorem dX4_addBoard_12 : decode cX4_addBoard 12 = .ok (.aload_n 0, 1) := by decide +kernel
theorem dX4_addBoard_13 : decode cX4_addBoard 13 = .ok (.getfield 11, 3) := by decide +kernel
theorem dX4_addBoard_16 : decode cX4_addBoard 16 = .ok (.aload_n 0, 1) := by decide +kernel
theorem dX4_addBoard_17 : decode cX4_addBoard 17 = .ok (.getfield 47, 3) := by decide +kernel
theorem dX4_addBoard_20 : decode cX4_addBoard 20 = .ok (.aaload, 1) := by decide +kernel
theorem dX4_addBoard_21 : decode cX4_addBoard 21 = .ok (.iload_n 1, 1) := by decide +kernel
theorem dX4_addBoard_22 : decode cX4_addBoard 22 = .ok (.iload_n 2, 1) := by decide +kernel
theorem dX4_addBoard_23 : decode cX4_addBoard 23 = .ok (.iload_n 3, 1) := by decide +kernel
theorem dX4_addBoard_24 : decode cX4_addBoard 24 = .ok (.invokevirtual 91, 3) := by decide +kernel
theorem dX4_addBoard_27 : decode cX4_addBoard 27 = .ok (.aload_n 0, 1) := by decide +kernel
theorem dX4_addBoard_28 : decode cX4_addBoard 28 = .ok (.dup, 1) := by decide +kernel
theorem dX4_addBoard_29 : decode cX4_addBoard 29 = .ok (.getfield 47, 3) := by decide +kernel
theorem dX4_addBoard_32 : decode cX4_addBoard 32 = .ok (.iconst 1, 1) := by decide +kernel
theorem dX4_addBoard_33 : decode cX4_addBoard 33 = .ok (.iadd, 1) := by decide +kernel
theorem dX4_addBoard_34 : decode cX4_addBoard 34 = .ok (.putfield 47, 3) := by decide +kernel
theorem dX4_addBoard_37 : decode cX4_addBoard 37 = .ok (.return_, 1) := by decide +kernel
theorem dX4_admit_0 : decode cX4_admit 0 = .ok (.aload_n 0, 1) := by decide +kernel
theorem dX4_admit_1 : decode cX4_admit 1 = .ok (.getfield 50, 3) := by decide +kernel
theorem dX4_admit_4 : decode cX4_admit 4 = .ok (.aload_n 0, 1) := by decide +kernel
theorem dX4_admit_5 : decode cX4_admit 5 = .ok (.getfield 19, 3) := by decide +kernel
theorem dX4_admit_8 : decode cX4_admit 8 = .ok (.arraylength, 1) := by decide +kernel
theorem dX4_admit_9 : decode cX4_admit 9 = .ok (.if_icmp .lt 5, 3) := by decide +kernel
theorem dX4_admit_12 : decode cX4_admit 12 = .ok (.iconst (-1), 1) := by decide +kernel
theorem dX4_admit_13 : decode cX4_admit 13 = .ok (.ireturn, 1) := by decide +kernel
theorem dX4_admit_14 : decode cX4_admit 14 = .ok (.aload_n 0, 1) := by decide +kernel
theorem dX4_admit_15 : decode cX4_admit 15 = .ok (.getfield 19, 3) := by decide +kernel
theorem dX4_admit_18 : decode cX4_admit 18 = .ok (.aload_n 0, 1) := by decide +kernel
theorem dX4_admit_19 : decode cX4_admit 19 = .ok (.getfield 50, 3) := by decide +kernel
theorem dX4_admit_22 : decode cX4_admit 22 = .ok (.aaload, 1) := by decide +kernel
theorem dX4_admit_23 : decode cX4_admit 23 = .ok (.astore 6, 2) := by decide +kernel
theorem dX4_admit_25 : decode cX4_admit 25 = .ok (.aload_n 0, 1) := by decide +kernel
theorem dX4_admit_26 : decode cX4_admit 26 = .ok (.dup, 1) := by decide +kernel
theorem dX4_admit_27 : decode cX4_admit 27 = .ok (.getfield 50, 3) := by decide +kernel
theorem dX4_admit_30 : decode cX4_admit 30 = .ok (.iconst 1, 1) := by decide +kernel
theorem dX4_admit_31 : decode cX4_admit 31 = .ok (.iadd, 1) := by decide +kernel
theorem dX4_admit_32 : decode cX4_admit 32 = .ok (.putfield 50, 3) := by decide +kernel
theorem dX4_admit_35 : decode cX4_admit 35 = .ok (.aload 6, 2) := by decide +kernel
theorem dX4_admit_37 : decode cX4_admit 37 = .ok (.lload_n 1, 1) := by decide +kernel
theorem dX4_admit_38 : decode cX4_admit 38 = .ok (.putfield 87, 3) := by decide +kernel
theorem dX4_admit_41 : decode cX4_admit 41 = .ok (.aload 6, 2) := by decide +kernel
theorem dX4_admit_43 : decode cX4_admit 43 = .ok (.iload_n 3, 1) := by decide +kernel
theorem dX4_admit_44 : decode cX4_admit 44 = .ok (.putfield 99, 3) := by decide +kernel
theorem dX4_admit_47 : decode cX4_admit 47 = .ok (.aload 6, 2) := by decide +kernel
theorem dX4_admit_49 : decode cX4_admit 49 = .ok (.iload 4, 2) := by decide +kernel
theorem dX4_admit_51 : decode cX4_admit 51 = .ok (.putfield 102, 3) := by decide +kernel
theorem dX4_admit_54 : decode cX4_admit 54 = .ok (.aload 6, 2) := by decide +kernel
theorem dX4_admit_56 : decode cX4_admit 56 = .ok (.iload 5, 2) := by decide +kernel
theorem dX4_admit_58 : decode cX4_admit 58 = .ok (.putfield 105, 3) := by decide +kernel
theorem dX4_admit_61 : decode cX4_admit 61 = .ok (.aload 6, 2) := by decide +kernel
theorem dX4_admit_63 : decode cX4_admit 63 = .ok (.iconst 1, 1) := by decide +kernel
theorem dX4_admit_64 : decode cX4_admit 64 = .ok (.putfield 108, 3) := by decide +kernel
theorem dX4_admit_67 : decode cX4_admit 67 = .ok (.aload 6, 2) := by decide +kernel
theorem dX4_admit_69 : decode cX4_admit 69 = .ok (.iconst (-1), 1) := by decide +kernel
theorem dX4_admit_70 : decode cX4_admit 70 = .ok (.putfield 112, 3) := by decide +kernel
theorem dX4_admit_73 : decode cX4_admit 73 = .ok (.aload 6, 2) := by decide +kernel
theorem dX4_admit_75 : decode cX4_admit 75 = .ok (.iconst 0, 1) := by decide +kernel
theorem dX4_admit_76 : decode cX4_admit 76 = .ok (.putfield 115, 3) := by decide +kernel
theorem dX4_admit_79 : decode cX4_admit 79 = .ok (.aload_n 0, 1) := by decide +kernel
theorem dX4_admit_80 : decode cX4_admit 80 = .ok (.dup, 1) := by decide +kernel
theorem dX4_admit_81 : decode cX4_admit 81 = .ok (.getfield 74, 3) := by decide +kernel
theorem dX4_admit_84 : decode cX4_admit 84 = .ok (.iload 4, 2) := by decide +kernel
theorem dX4_admit_86 : decode cX4_admit 86 = .ok (.iadd, 1) := by decide +kernel
theorem dX4_admit_87 : decode cX4_admit 87 = .ok (.putfield 74, 3) := by decide +kernel
theorem dX4_admit_90 : decode cX4_admit 90 = .ok (.aload 6, 2) := by decide +kernel
theorem dX4_admit_92 : decode cX4_admit 92 = .ok (.getfield 118, 3) := by decide +kernel
theorem dX4_admit_95 : decode cX4_admit 95 = .ok (.ireturn, 1) := by decide +kernel
theorem dX4_torqueOn_0 : decode cX4_torqueOn 0 = .ok (.iconst 0, 1) := by decide +kernel
theorem dX4_torqueOn_1 : decode cX4_torqueOn 1 = .ok (.istore_n 2, 1) := by decide +kernel
theorem dX4_torqueOn_2 : decode cX4_torqueOn 2 = .ok (.iconst 0, 1) := by decide +kernel
theorem dX4_torqueOn_3 : decode cX4_torqueOn 3 = .ok (.istore_n 3, 1) := by decide +kernel
theorem dX4_torqueOn_4 : decode cX4_torqueOn 4 = .ok (.iload_n 3, 1) := by decide +kernel
theorem dX4_torqueOn_5 : decode cX4_torqueOn 5 = .ok (.aload_n 0, 1) := by decide +kernel
theorem dX4_torqueOn_6 : decode cX4_torqueOn 6 = .ok (.getfield 50, 3) := by decide +kernel
theorem dX4_torqueOn_9 : decode cX4_torqueOn 9 = .ok (.if_icmp .ge 43, 3) := by decide +kernel
theorem dX4_torqueOn_12 : decode cX4_torqueOn 12 = .ok (.aload_n 0, 1) := by decide +kernel
theorem dX4_torqueOn_13 : decode cX4_torqueOn 13 = .ok (.getfield 19, 3) := by decide +kernel
theorem dX4_torqueOn_16 : decode cX4_torqueOn 16 = .ok (.iload_n 3, 1) := by decide +kernel
theorem dX4_torqueOn_17 : decode cX4_torqueOn 17 = .ok (.aaload, 1) := by decide +kernel
theorem dX4_torqueOn_18 : decode cX4_torqueOn 18 = .ok (.astore 4, 2) := by decide +kernel
theorem dX4_torqueOn_20 : decode cX4_torqueOn 20 = .ok (.aload 4, 2) := by decide +kernel
theorem dX4_torqueOn_22 : decode cX4_torqueOn 22 = .ok (.getfield 112, 3) := by decide +kernel
theorem dX4_torqueOn_25 : decode cX4_torqueOn 25 = .ok (.aload_n 1, 1) := by decide +kernel
theorem dX4_torqueOn_26 : decode cX4_torqueOn 26 = .ok (.getfield 121, 3) := by decide +kernel
theorem dX4_torqueOn_29 : decode cX4_torqueOn 29 = .ok (.if_icmp .ne 17, 3) := by decide +kernel
theorem dX4_torqueOn_32 : decode cX4_torqueOn 32 = .ok (.iload_n 2, 1) := by decide +kernel
theorem dX4_torqueOn_33 : decode cX4_torqueOn 33 = .ok (.aload 4, 2) := by decide +kernel
theorem dX4_torqueOn_35 : decode cX4_torqueOn 35 = .ok (.getfield 115, 3) := by decide +kernel
theorem dX4_torqueOn_38 : decode cX4_torqueOn 38 = .ok (.aload 4, 2) := by decide +kernel
theorem dX4_torqueOn_40 : decode cX4_torqueOn 40 = .ok (.getfield 99, 3) := by decide +kernel
theorem dX4_torqueOn_43 : decode cX4_torqueOn 43 = .ok (.imul, 1) := by decide +kernel
theorem dX4_torqueOn_44 : decode cX4_torqueOn 44 = .ok (.iadd, 1) := by decide +kernel
theorem dX4_torqueOn_45 : decode cX4_torqueOn 45 = .ok (.istore_n 2, 1) := by decide +kernel
theorem dX4_torqueOn_46 : decode cX4_torqueOn 46 = .ok (.iinc 3 1, 3) := by decide +kernel
theorem dX4_torqueOn_49 : decode cX4_torqueOn 49 = .ok (.goto (-45), 3) := by decide +kernel
theorem dX4_torqueOn_52 : decode cX4_torqueOn 52 = .ok (.iload_n 2, 1) := by decide +kernel
theorem dX4_torqueOn_53 : decode cX4_torqueOn 53 = .ok (.ireturn, 1) := by decide +kernel
theorem dX4_heightOn_0 : decode cX4_heightOn 0 = .ok (.iload_n 2, 1) := by decide +kernel
theorem dX4_heightOn_1 : decode cX4_heightOn 1 = .ok (.ineg, 1) := by decide +kernel
theorem dX4_heightOn_2 : decode cX4_heightOn 2 = .ok (.aload_n 1, 1) := by decide +kernel
theorem dX4_heightOn_3 : decode cX4_heightOn 3 = .ok (.aload_n 0, 1) := by decide +kernel
theorem dX4_heightOn_4 : decode cX4_heightOn 4 = .ok (.aload_n 1, 1) := by decide +kernel
theorem dX4_heightOn_5 : decode cX4_heightOn 5 = .ok (.invokevirtual 122, 3) := by decide +kernel
theorem dX4_heightOn_8 : decode cX4_heightOn 8 = .ok (.invokevirtual 126, 3) := by decide +kernel
theorem dX4_heightOn_11 : decode cX4_heightOn 11 = .ok (.imul, 1) := by decide +kernel
theorem dX4_heightOn_12 : decode cX4_heightOn 12 = .ok (.ireturn, 1) := by decide +kernel
theorem dX4_priceOn_0 : decode cX4_priceOn 0 = .ok (.aload_n 0, 1) := by decide +kernel
theorem dX4_priceOn_1 : decode cX4_priceOn 1 = .ok (.getfield 62, 3) := by decide +kernel
theorem dX4_priceOn_4 : decode cX4_priceOn 4 = .ok (.iload_n 2, 1) := by decide +kernel
theorem dX4_priceOn_5 : decode cX4_priceOn 5 = .ok (.invokestatic 130, 3) := by decide +kernel
theorem dX4_priceOn_8 : decode cX4_priceOn 8 = .ok (.iadd, 1) := by decide +kernel
theorem dX4_priceOn_9 : decode cX4_priceOn 9 = .ok (.iconst 0, 1) := by decide +kernel
theorem dX4_priceOn_10 : decode cX4_priceOn 10 = .ok (.aload_n 0, 1) := by decide +kernel
theorem dX4_priceOn_11 : decode cX4_priceOn 11 = .ok (.aload_n 1, 1) := by decide +kernel
theorem dX4_priceOn_12 : decode cX4_priceOn 12 = .ok (.iload_n 2, 1) := by decide +kernel
theorem dX4_priceOn_13 : decode cX4_priceOn 13 = .ok (.invokevirtual 135, 3) := by decide +kernel
theorem dX4_priceOn_16 : decode cX4_priceOn 16 = .ok (.invokestatic 139, 3) := by decide +kernel
theorem dX4_priceOn_19 : decode cX4_priceOn 19 = .ok (.iadd, 1) := by decide +kernel
theorem dX4_priceOn_20 : decode cX4_priceOn 20 = .ok (.ireturn, 1) := by decide +kernel
theorem dX4_heightUnder_0 : decode cX4_heightUnder 0 = .ok (.aload_n 0, 1) := by decide +kernel
theorem dX4_heightUnder_1 : decode cX4_heightUnder 1 = .ok (.aload_n 1, 1) := by decide +kernel
theorem dX4_heightUnder_2 : decode cX4_heightUnder 2 = .ok (.getfield 112, 3) := by decide +kernel
theorem dX4_heightUnder_5 : decode cX4_heightUnder 5 = .ok (.invokevirtual 143, 3) := by decide +kernel
theorem dX4_heightUnder_8 : decode cX4_heightUnder 8 = .ok (.astore_n 2, 1) := by decide +kernel
theorem dX4_heightUnder_9 : decode cX4_heightUnder 9 = .ok (.aload_n 2, 1) := by decide +kernel
theorem dX4_heightUnder_10 : decode cX4_heightUnder 10 = .ok (.ifnonnull 7, 3) := by decide +kernel
theorem dX4_heightUnder_13 : decode cX4_heightUnder 13 = .ok (.iconst 0, 1) := by decide +kernel
theorem dX4_heightUnder_14 : decode cX4_heightUnder 14 = .ok (.goto 18, 3) := by decide +kernel
theorem dX4_heightUnder_17 : decode cX4_heightUnder 17 = .ok (.aload_n 1, 1) := by decide +kernel
theorem dX4_heightUnder_18 : decode cX4_heightUnder 18 = .ok (.getfield 115, 3) := by decide +kernel
theorem dX4_heightUnder_21 : decode cX4_heightUnder 21 = .ok (.ineg, 1) := by decide +kernel
theorem dX4_heightUnder_22 : decode cX4_heightUnder 22 = .ok (.aload_n 2, 1) := by decide +kernel
theorem dX4_heightUnder_23 : decode cX4_heightUnder 23 = .ok (.aload_n 0, 1) := by decide +kernel
theorem dX4_heightUnder_24 : decode cX4_heightUnder 24 = .ok (.aload_n 2, 1) := by decide +kernel
theorem dX4_heightUnder_25 : decode cX4_heightUnder 25 = .ok (.invokevirtual 122, 3) := by decide +kernel
theorem dX4_heightUnder_28 : decode cX4_heightUnder 28 = .ok (.invokevirtual 126, 3) := by decide +kernel
theorem dX4_heightUnder_31 : decode cX4_heightUnder 31 = .ok (.imul, 1) := by decide +kernel
theorem dX4_heightUnder_32 : decode cX4_heightUnder 32 = .ok (.ireturn, 1) := by decide +kernel
theorem dX4_incomeFor_0 : decode cX4_incomeFor 0 = .ok (.aload_n 1, 1) := by decide +kernel
theorem dX4_incomeFor_1 : decode cX4_incomeFor 1 = .ok (.invokevirtual 147, 3) := by decide +kernel
theorem dX4_incomeFor_4 : decode cX4_incomeFor 4 = .ok (.ifCond .eq 16, 3) := by decide +kernel
theorem dX4_incomeFor_7 : decode cX4_incomeFor 7 = .ok (.aload_n 0, 1) := by decide +kernel
theorem dX4_incomeFor_8 : decode cX4_incomeFor 8 = .ok (.getfield 59, 3) := by decide +kernel
theorem dX4_incomeFor_11 : decode cX4_incomeFor 11 = .ok (.aload_n 0, 1) := by decide +kernel
theorem dX4_incomeFor_12 : decode cX4_incomeFor 12 = .ok (.aload_n 1, 1) := by decide +kernel
theorem dX4_incomeFor_13 : decode cX4_incomeFor 13 = .ok (.invokevirtual 151, 3) := by decide +kernel
theorem dX4_incomeFor_16 : decode cX4_incomeFor 16 = .ok (.iadd, 1) := by decide +kernel
theorem dX4_incomeFor_17 : decode cX4_incomeFor 17 = .ok (.goto 4, 3) := by decide +kernel
theorem dX4_incomeFor_20 : decode cX4_incomeFor 20 = .ok (.iconst 0, 1) := by decide +kernel
theorem dX4_incomeFor_21 : decode cX4_incomeFor 21 = .ok (.ireturn, 1) := by decide +kernel
theorem dX4_unitPrice_0 : decode cX4_unitPrice 0 = .ok (.iconst 1, 1) := by decide +kernel
theorem dX4_unitPrice_1 : decode cX4_unitPrice 1 = .ok (.aload_n 0, 1) := by decide +kernel
theorem dX4_unitPrice_2 : decode cX4_unitPrice 2 = .ok (.getfield 65, 3) := by decide +kernel
theorem dX4_unitPrice_5 : decode cX4_unitPrice 5 = .ok (.aload_n 0, 1) := by decide +kernel
theorem dX4_unitPrice_6 : decode cX4_unitPrice 6 = .ok (.aload_n 2, 1) := by decide +kernel
theorem dX4_unitPrice_7 : decode cX4_unitPrice 7 = .ok (.invokevirtual 151, 3) := by decide +kernel
theorem dX4_unitPrice_10 : decode cX4_unitPrice 10 = .ok (.iadd, 1) := by decide +kernel
theorem dX4_unitPrice_11 : decode cX4_unitPrice 11 = .ok (.aload_n 0, 1) := by decide +kernel
theorem dX4_unitPrice_12 : decode cX4_unitPrice 12 = .ok (.aload_n 1, 1) := by decide +kernel
theorem dX4_unitPrice_13 : decode cX4_unitPrice 13 = .ok (.invokevirtual 151, 3) := by decide +kernel
theorem dX4_unitPrice_16 : decode cX4_unitPrice 16 = .ok (.isub, 1) := by decide +kernel
theorem dX4_unitPrice_17 : decode cX4_unitPrice 17 = .ok (.invokestatic 139, 3) := by decide +kernel
theorem dX4_unitPrice_20 : decode cX4_unitPrice 20 = .ok (.ireturn, 1) := by decide +kernel
theorem dX4_whyNotSeat_0 : decode cX4_whyNotSeat 0 = .ok (.aload_n 1, 1) := by decide +kernel
theorem dX4_whyNotSeat_1 : decode cX4_whyNotSeat 1 = .ok (.getfield 108, 3) := by decide +kernel
theorem dX4_whyNotSeat_4 : decode cX4_whyNotSeat 4 = .ok (.ifCond .ne 5, 3) := by decide +kernel
theorem dX4_whyNotSeat_7 : decode cX4_whyNotSeat 7 = .ok (.iconst 1, 1) := by decide +kernel
theorem dX4_whyNotSeat_8 : decode cX4_whyNotSeat 8 = .ok (.ireturn, 1) := by decide +kernel
theorem dX4_whyNotSeat_9 : decode cX4_whyNotSeat 9 = .ok (.aload_n 2, 1) := by decide +kernel
theorem dX4_whyNotSeat_10 : decode cX4_whyNotSeat 10 = .ok (.iload_n 3, 1) := by decide +kernel
theorem dX4_whyNotSeat_11 : decode cX4_whyNotSeat 11 = .ok (.invokevirtual 158, 3) := by decide +kernel
theorem dX4_whyNotSeat_14 : decode cX4_whyNotSeat 14 = .ok (.ifCond .ne 5, 3) := by decide +kernel
theorem dX4_whyNotSeat_17 : decode cX4_whyNotSeat 17 = .ok (.iconst 2, 1) := by decide +kernel
theorem dX4_whyNotSeat_18 : decode cX4_whyNotSeat 18 = .ok (.ireturn, 1) := by decide +kernel
theorem dX4_whyNotSeat_19 : decode cX4_whyNotSeat 19 = .ok (.aload_n 1, 1) := by decide +kernel
theorem dX4_whyNotSeat_20 : decode cX4_whyNotSeat 20 = .ok (.getfield 102, 3) := by decide +kernel
theorem dX4_whyNotSeat_23 : decode cX4_whyNotSeat 23 = .ok (.aload_n 0, 1) := by decide +kernel
theorem dX4_whyNotSeat_24 : decode cX4_whyNotSeat 24 = .ok (.aload_n 2, 1) := by decide +kernel
theorem dX4_whyNotSeat_25 : decode cX4_whyNotSeat 25 = .ok (.iload_n 3, 1) := by decide +kernel
theorem dX4_whyNotSeat_26 : decode cX4_whyNotSeat 26 = .ok (.invokevirtual 169, 3) := by decide +kernel
theorem dX4_whyNotSeat_29 : decode cX4_whyNotSeat 29 = .ok (.if_icmp .ge 5, 3) := by decide +kernel
theorem dX4_whyNotSeat_32 : decode cX4_whyNotSeat 32 = .ok (.iconst 3, 1) := by decide +kernel
theorem dX4_whyNotSeat_33 : decode cX4_whyNotSeat 33 = .ok (.ireturn, 1) := by decide +kernel
theorem dX4_whyNotSeat_34 : decode cX4_whyNotSeat 34 = .ok (.aload_n 2, 1) := by decide +kernel
theorem dX4_whyNotSeat_35 : decode cX4_whyNotSeat 35 = .ok (.aload_n 0, 1) := by decide +kernel
theorem dX4_whyNotSeat_36 : decode cX4_whyNotSeat 36 = .ok (.aload_n 1, 1) := by decide +kernel
theorem dX4_whyNotSeat_37 : decode cX4_whyNotSeat 37 = .ok (.aload_n 2, 1) := by decide +kernel
theorem dX4_whyNotSeat_38 : decode cX4_whyNotSeat 38 = .ok (.iload_n 3, 1) := by decide +kernel
theorem dX4_whyNotSeat_39 : decode cX4_whyNotSeat 39 = .ok (.invokevirtual 162, 3) := by decide +kernel
theorem dX4_whyNotSeat_42 : decode cX4_whyNotSeat 42 = .ok (.invokevirtual 172, 3) := by decide +kernel
theorem dX4_whyNotSeat_45 : decode cX4_whyNotSeat 45 = .ok (.ifCond .eq 7, 3) := by decide +kernel
theorem dX4_whyNotSeat_48 : decode cX4_whyNotSeat 48 = .ok (.iconst 4, 1) := by decide +kernel
theorem dX4_whyNotSeat_49 : decode cX4_whyNotSeat 49 = .ok (.goto 4, 3) := by decide +kernel
theorem dX4_whyNotSeat_52 : decode cX4_whyNotSeat 52 = .ok (.iconst 0, 1) := by decide +kernel
theorem dX4_whyNotSeat_53 : decode cX4_whyNotSeat 53 = .ok (.ireturn, 1) := by decide +kernel
theorem dX4_torqueAfterMove_0 : decode cX4_torqueAfterMove 0 = .ok (.aload_n 0, 1) := by decide +kernel
theorem dX4_torqueAfterMove_1 : decode cX4_torqueAfterMove 1 = .ok (.aload_n 2, 1) := by decide +kernel
theorem dX4_torqueAfterMove_2 : decode cX4_torqueAfterMove 2 = .ok (.invokevirtual 122, 3) := by decide +kernel
theorem dX4_torqueAfterMove_5 : decode cX4_torqueAfterMove 5 = .ok (.iload_n 3, 1) := by decide +kernel
theorem dX4_torqueAfterMove_6 : decode cX4_torqueAfterMove 6 = .ok (.aload_n 1, 1) := by decide +kernel
theorem dX4_torqueAfterMove_7 : decode cX4_torqueAfterMove 7 = .ok (.getfield 99, 3) := by decide +kernel
theorem dX4_torqueAfterMove_10 : decode cX4_torqueAfterMove 10 = .ok (.imul, 1) := by decide +kernel
theorem dX4_torqueAfterMove_11 : decode cX4_torqueAfterMove 11 = .ok (.iadd, 1) := by decide +kernel
theorem dX4_torqueAfterMove_12 : decode cX4_torqueAfterMove 12 = .ok (.istore 4, 2) := by decide +kernel
theorem dX4_torqueAfterMove_14 : decode cX4_torqueAfterMove 14 = .ok (.aload_n 1, 1) := by decide +kernel
theorem dX4_torqueAfterMove_15 : decode cX4_torqueAfterMove 15 = .ok (.getfield 112, 3) := by decide +kernel
theorem dX4_torqueAfterMove_18 : decode cX4_torqueAfterMove 18 = .ok (.aload_n 2, 1) := by decide +kernel
theorem dX4_torqueAfterMove_19 : decode cX4_torqueAfterMove 19 = .ok (.getfield 121, 3) := by decide +kernel
theorem dX4_torqueAfterMove_22 : decode cX4_torqueAfterMove 22 = .ok (.if_icmp .ne 18, 3) := by decide +kernel
theorem dX4_torqueAfterMove_25 : decode cX4_torqueAfterMove 25 = .ok (.iload 4, 2) := by decide +kernel
theorem dX4_torqueAfterMove_27 : decode cX4_torqueAfterMove 27 = .ok (.aload_n 1, 1) := by decide +kernel
theorem dX4_torqueAfterMove_28 : decode cX4_torqueAfterMove 28 = .ok (.getfield 115, 3) := by decide +kernel
theorem dX4_torqueAfterMove_31 : decode cX4_torqueAfterMove 31 = .ok (.aload_n 1, 1) := by decide +kernel
theorem dX4_torqueAfterMove_32 : decode cX4_torqueAfterMove 32 = .ok (.getfield 99, 3) := by decide +kernel
theorem dX4_torqueAfterMove_35 : decode cX4_torqueAfterMove 35 = .ok (.imul, 1) := by decide +kernel
theorem dX4_torqueAfterMove_36 : decode cX4_torqueAfterMove 36 = .ok (.isub, 1) := by decide +kernel
theorem dX4_torqueAfterMove_37 : decode cX4_torqueAfterMove 37 = .ok (.goto 5, 3) := by decide +kernel
theorem dX4_torqueAfterMove_40 : decode cX4_torqueAfterMove 40 = .ok (.iload 4, 2) := by decide +kernel
theorem dX4_torqueAfterMove_42 : decode cX4_torqueAfterMove 42 = .ok (.ireturn, 1) := by decide +kernel
theorem dX4_whyNotSale_0 : decode cX4_whyNotSale 0 = .ok (.aload_n 0, 1) := by decide +kernel
theorem dX4_whyNotSale_1 : decode cX4_whyNotSale 1 = .ok (.aload_n 1, 1) := by decide +kernel
theorem dX4_whyNotSale_2 : decode cX4_whyNotSale 2 = .ok (.getfield 112, 3) := by decide +kernel
theorem dX4_whyNotSale_5 : decode cX4_whyNotSale 5 = .ok (.invokevirtual 143, 3) := by decide +kernel
theorem dX4_whyNotSale_8 : decode cX4_whyNotSale 8 = .ok (.astore 4, 2) := by decide +kernel
theorem dX4_whyNotSale_10 : decode cX4_whyNotSale 10 = .ok (.aload 4, 2) := by decide +kernel
theorem dX4_whyNotSale_12 : decode cX4_whyNotSale 12 = .ok (.ifnull 10, 3) := by decide +kernel
theorem dX4_whyNotSale_15 : decode cX4_whyNotSale 15 = .ok (.aload_n 2, 1) := by decide +kernel
theorem dX4_whyNotSale_16 : decode cX4_whyNotSale 16 = .ok (.invokevirtual 147, 3) := by decide +kernel
theorem dX4_whyNotSale_19 : decode cX4_whyNotSale 19 = .ok (.ifCond .ne 5, 3) := by decide +kernel
theorem dX4_whyNotSale_22 : decode cX4_whyNotSale 22 = .ok (.iconst 5, 1) := by decide +kernel
theorem dX4_whyNotSale_23 : decode cX4_whyNotSale 23 = .ok (.ireturn, 1) := by decide +kernel
theorem dX4_whyNotSale_24 : decode cX4_whyNotSale 24 = .ok (.aload_n 1, 1) := by decide +kernel
theorem dX4_whyNotSale_25 : decode cX4_whyNotSale 25 = .ok (.getfield 112, 3) := by decide +kernel
theorem dX4_whyNotSale_28 : decode cX4_whyNotSale 28 = .ok (.aload_n 2, 1) := by decide +kernel
theorem dX4_whyNotSale_29 : decode cX4_whyNotSale 29 = .ok (.getfield 112, 3) := by decide +kernel
theorem dX4_whyNotSale_32 : decode cX4_whyNotSale 32 = .ok (.if_icmp .eq 6, 3) := by decide +kernel
theorem dX4_whyNotSale_35 : decode cX4_whyNotSale 35 = .ok (.bipush 6, 2) := by decide +kernel
theorem dX4_whyNotSale_37 : decode cX4_whyNotSale 37 = .ok (.ireturn, 1) := by decide +kernel
theorem dX4_whyNotSale_38 : decode cX4_whyNotSale 38 = .ok (.aload_n 1, 1) := by decide +kernel
theorem dX4_whyNotSale_39 : decode cX4_whyNotSale 39 = .ok (.getfield 99, 3) := by decide +kernel
theorem dX4_whyNotSale_42 : decode cX4_whyNotSale 42 = .ok (.iload_n 3, 1) := by decide +kernel
theorem dX4_whyNotSale_43 : decode cX4_whyNotSale 43 = .ok (.isub, 1) := by decide +kernel
theorem dX4_whyNotSale_44 : decode cX4_whyNotSale 44 = .ok (.iconst 1, 1) := by decide +kernel
theorem dX4_whyNotSale_45 : decode cX4_whyNotSale 45 = .ok (.if_icmp .lt 14, 3) := by decide +kernel
theorem dX4_whyNotSale_48 : decode cX4_whyNotSale 48 = .ok (.aload_n 2, 1) := by decide +kernel
theorem dX4_whyNotSale_49 : decode cX4_whyNotSale 49 = .ok (.getfield 99, 3) := by decide +kernel
theorem dX4_whyNotSale_52 : decode cX4_whyNotSale 52 = .ok (.iload_n 3, 1) := by decide +kernel
theorem dX4_whyNotSale_53 : decode cX4_whyNotSale 53 = .ok (.iadd, 1) := by decide +kernel
theorem dX4_whyNotSale_54 : decode cX4_whyNotSale 54 = .ok (.bipush 99, 2) := by decide +kernel
theorem dX4_whyNotSale_56 : decode cX4_whyNotSale 56 = .ok (.if_icmp .le 6, 3) := by decide +kernel
theorem dX4_whyNotSale_59 : decode cX4_whyNotSale 59 = .ok (.bipush 7, 2) := by decide +kernel
theorem dX4_whyNotSale_61 : decode cX4_whyNotSale 61 = .ok (.ireturn, 1) := by decide +kernel
theorem dX4_whyNotSale_62 : decode cX4_whyNotSale 62 = .ok (.aload_n 2, 1) := by decide +kernel
theorem dX4_whyNotSale_63 : decode cX4_whyNotSale 63 = .ok (.getfield 102, 3) := by decide +kernel
theorem dX4_whyNotSale_66 : decode cX4_whyNotSale 66 = .ok (.iload_n 3, 1) := by decide +kernel
theorem dX4_whyNotSale_67 : decode cX4_whyNotSale 67 = .ok (.aload_n 0, 1) := by decide +kernel
theorem dX4_whyNotSale_68 : decode cX4_whyNotSale 68 = .ok (.aload_n 1, 1) := by decide +kernel
theorem dX4_whyNotSale_69 : decode cX4_whyNotSale 69 = .ok (.aload_n 2, 1) := by decide +kernel
theorem dX4_whyNotSale_70 : decode cX4_whyNotSale 70 = .ok (.invokevirtual 175, 3) := by decide +kernel
theorem dX4_whyNotSale_73 : decode cX4_whyNotSale 73 = .ok (.imul, 1) := by decide +kernel
theorem dX4_whyNotSale_74 : decode cX4_whyNotSale 74 = .ok (.if_icmp .ge 5, 3) := by decide +kernel
theorem dX4_whyNotSale_77 : decode cX4_whyNotSale 77 = .ok (.iconst 3, 1) := by decide +kernel
theorem dX4_whyNotSale_78 : decode cX4_whyNotSale 78 = .ok (.ireturn, 1) := by decide +kernel
theorem dX4_whyNotSale_79 : decode cX4_whyNotSale 79 = .ok (.aload_n 0, 1) := by decide +kernel
theorem dX4_whyNotSale_80 : decode cX4_whyNotSale 80 = .ok (.aload 4, 2) := by decide +kernel
theorem dX4_whyNotSale_82 : decode cX4_whyNotSale 82 = .ok (.invokevirtual 122, 3) := by decide +kernel
theorem dX4_whyNotSale_85 : decode cX4_whyNotSale 85 = .ok (.iload_n 3, 1) := by decide +kernel
theorem dX4_whyNotSale_86 : decode cX4_whyNotSale 86 = .ok (.aload_n 2, 1) := by decide +kernel
theorem dX4_whyNotSale_87 : decode cX4_whyNotSale 87 = .ok (.getfield 115, 3) := by decide +kernel
theorem dX4_whyNotSale_90 : decode cX4_whyNotSale 90 = .ok (.aload_n 1, 1) := by decide +kernel
theorem dX4_whyNotSale_91 : decode cX4_whyNotSale 91 = .ok (.getfield 115, 3) := by decide +kernel
theorem dX4_whyNotSale_94 : decode cX4_whyNotSale 94 = .ok (.isub, 1) := by decide +kernel
theorem dX4_whyNotSale_95 : decode cX4_whyNotSale 95 = .ok (.imul, 1) := by decide +kernel
theorem dX4_whyNotSale_96 : decode cX4_whyNotSale 96 = .ok (.iadd, 1) := by decide +kernel
theorem dX4_whyNotSale_97 : decode cX4_whyNotSale 97 = .ok (.istore 5, 2) := by decide +kernel
theorem dX4_whyNotSale_99 : decode cX4_whyNotSale 99 = .ok (.aload 4, 2) := by decide +kernel
theorem dX4_whyNotSale_101 : decode cX4_whyNotSale 101 = .ok (.iload 5, 2) := by decide +kernel
theorem dX4_whyNotSale_103 : decode cX4_whyNotSale 103 = .ok (.invokevirtual 172, 3) := by decide +kernel
theorem dX4_whyNotSale_106 : decode cX4_whyNotSale 106 = .ok (.ifCond .eq 7, 3) := by decide +kernel
theorem dX4_whyNotSale_109 : decode cX4_whyNotSale 109 = .ok (.iconst 4, 1) := by decide +kernel
theorem dX4_whyNotSale_110 : decode cX4_whyNotSale 110 = .ok (.goto 4, 3) := by decide +kernel
theorem dX4_whyNotSale_113 : decode cX4_whyNotSale 113 = .ok (.iconst 0, 1) := by decide +kernel
theorem dX4_whyNotSale_114 : decode cX4_whyNotSale 114 = .ok (.ireturn, 1) := by decide +kernel
theorem dX4_whyNotSwap_0 : decode cX4_whyNotSwap 0 = .ok (.aload_n 0, 1) := by decide +kernel
theorem dX4_whyNotSwap_1 : decode cX4_whyNotSwap 1 = .ok (.aload_n 1, 1) := by decide +kernel
theorem dX4_whyNotSwap_2 : decode cX4_whyNotSwap 2 = .ok (.getfield 112, 3) := by decide +kernel
theorem dX4_whyNotSwap_5 : decode cX4_whyNotSwap 5 = .ok (.invokevirtual 143, 3) := by decide +kernel
theorem dX4_whyNotSwap_8 : decode cX4_whyNotSwap 8 = .ok (.astore_n 3, 1) := by decide +kernel
theorem dX4_whyNotSwap_9 : decode cX4_whyNotSwap 9 = .ok (.aload_n 0, 1) := by decide +kernel
theorem dX4_whyNotSwap_10 : decode cX4_whyNotSwap 10 = .ok (.aload_n 2, 1) := by decide +kernel
theorem dX4_whyNotSwap_11 : decode cX4_whyNotSwap 11 = .ok (.getfield 112, 3) := by decide +kernel
theorem dX4_whyNotSwap_14 : decode cX4_whyNotSwap 14 = .ok (.invokevirtual 143, 3) := by decide +kernel
theorem dX4_whyNotSwap_17 : decode cX4_whyNotSwap 17 = .ok (.astore 4, 2) := by decide +kernel
theorem dX4_whyNotSwap_19 : decode cX4_whyNotSwap 19 = .ok (.aload_n 3, 1) := by decide +kernel
theorem dX4_whyNotSwap_20 : decode cX4_whyNotSwap 20 = .ok (.ifnull 8, 3) := by decide +kernel
theorem dX4_whyNotSwap_23 : decode cX4_whyNotSwap 23 = .ok (.aload 4, 2) := by decide +kernel
theorem dX4_whyNotSwap_25 : decode cX4_whyNotSwap 25 = .ok (.ifnonnull 5, 3) := by decide +kernel
theorem dX4_whyNotSwap_28 : decode cX4_whyNotSwap 28 = .ok (.iconst 5, 1) := by decide +kernel
theorem dX4_whyNotSwap_29 : decode cX4_whyNotSwap 29 = .ok (.ireturn, 1) := by decide +kernel
theorem dX4_whyNotSwap_30 : decode cX4_whyNotSwap 30 = .ok (.aload_n 0, 1) := by decide +kernel
theorem dX4_whyNotSwap_31 : decode cX4_whyNotSwap 31 = .ok (.aload_n 2, 1) := by decide +kernel
theorem dX4_whyNotSwap_32 : decode cX4_whyNotSwap 32 = .ok (.invokevirtual 151, 3) := by decide +kernel
theorem dX4_whyNotSwap_35 : decode cX4_whyNotSwap 35 = .ok (.aload_n 0, 1) := by decide +kernel
theorem dX4_whyNotSwap_36 : decode cX4_whyNotSwap 36 = .ok (.aload_n 1, 1) := by decide +kernel
theorem dX4_whyNotSwap_37 : decode cX4_whyNotSwap 37 = .ok (.invokevirtual 151, 3) := by decide +kernel
theorem dX4_whyNotSwap_40 : decode cX4_whyNotSwap 40 = .ok (.isub, 1) := by decide +kernel
theorem dX4_whyNotSwap_41 : decode cX4_whyNotSwap 41 = .ok (.istore 5, 2) := by decide +kernel
theorem dX4_whyNotSwap_43 : decode cX4_whyNotSwap 43 = .ok (.aload_n 1, 1) := by decide +kernel
theorem dX4_whyNotSwap_44 : decode cX4_whyNotSwap 44 = .ok (.getfield 102, 3) := by decide +kernel
theorem dX4_whyNotSwap_47 : decode cX4_whyNotSwap 47 = .ok (.iload 5, 2) := by decide +kernel
theorem dX4_whyNotSwap_49 : decode cX4_whyNotSwap 49 = .ok (.if_icmp .lt 13, 3) := by decide +kernel
theorem dX4_whyNotSwap_52 : decode cX4_whyNotSwap 52 = .ok (.aload_n 2, 1) := by decide +kernel
theorem dX4_whyNotSwap_53 : decode cX4_whyNotSwap 53 = .ok (.getfield 102, 3) := by decide +kernel
theorem dX4_whyNotSwap_56 : decode cX4_whyNotSwap 56 = .ok (.iload 5, 2) := by decide +kernel
theorem dX4_whyNotSwap_58 : decode cX4_whyNotSwap 58 = .ok (.ineg, 1) := by decide +kernel
theorem dX4_whyNotSwap_59 : decode cX4_whyNotSwap 59 = .ok (.if_icmp .ge 5, 3) := by decide +kernel
theorem dX4_whyNotSwap_62 : decode cX4_whyNotSwap 62 = .ok (.iconst 3, 1) := by decide +kernel
theorem dX4_whyNotSwap_63 : decode cX4_whyNotSwap 63 = .ok (.ireturn, 1) := by decide +kernel
theorem dX4_whyNotSwap_64 : decode cX4_whyNotSwap 64 = .ok (.aload_n 0, 1) := by decide +kernel
theorem dX4_whyNotSwap_65 : decode cX4_whyNotSwap 65 = .ok (.aload_n 3, 1) := by decide +kernel
theorem dX4_whyNotSwap_66 : decode cX4_whyNotSwap 66 = .ok (.aload_n 1, 1) := by decide +kernel
theorem dX4_whyNotSwap_67 : decode cX4_whyNotSwap 67 = .ok (.aload_n 2, 1) := by decide +kernel
theorem dX4_whyNotSwap_68 : decode cX4_whyNotSwap 68 = .ok (.invokevirtual 179, 3) := by decide +kernel
theorem dX4_whyNotSwap_71 : decode cX4_whyNotSwap 71 = .ok (.ifCond .ne 14, 3) := by decide +kernel
theorem dX4_whyNotSwap_74 : decode cX4_whyNotSwap 74 = .ok (.aload_n 0, 1) := by decide +kernel
theorem dX4_whyNotSwap_75 : decode cX4_whyNotSwap 75 = .ok (.aload 4, 2) := by decide +kernel
theorem dX4_whyNotSwap_77 : decode cX4_whyNotSwap 77 = .ok (.aload_n 1, 1) := by decide +kernel
theorem dX4_whyNotSwap_78 : decode cX4_whyNotSwap 78 = .ok (.aload_n 2, 1) := by decide +kernel
theorem dX4_whyNotSwap_79 : decode cX4_whyNotSwap 79 = .ok (.invokevirtual 179, 3) := by decide +kernel
theorem dX4_whyNotSwap_82 : decode cX4_whyNotSwap 82 = .ok (.ifCond .eq 7, 3) := by decide +kernel
theorem dX4_whyNotSwap_85 : decode cX4_whyNotSwap 85 = .ok (.iconst 4, 1) := by decide +kernel
theorem dX4_whyNotSwap_86 : decode cX4_whyNotSwap 86 = .ok (.goto 4, 3) := by decide +kernel
theorem dX4_whyNotSwap_89 : decode cX4_whyNotSwap 89 = .ok (.iconst 0, 1) := by decide +kernel
theorem dX4_whyNotSwap_90 : decode cX4_whyNotSwap 90 = .ok (.ireturn, 1) := by decide +kernel
theorem dX4_tipsAfterSwap_0 : decode cX4_tipsAfterSwap 0 = .ok (.aload_n 0, 1) := by decide +kernel
theorem dX4_tipsAfterSwap_1 : decode cX4_tipsAfterSwap 1 = .ok (.aload_n 1, 1) := by decide +kernel
theorem dX4_tipsAfterSwap_2 : decode cX4_tipsAfterSwap 2 = .ok (.invokevirtual 122, 3) := by decide +kernel
theorem dX4_tipsAfterSwap_5 : decode cX4_tipsAfterSwap 5 = .ok (.istore 4, 2) := by decide +kernel
theorem dX4_tipsAfterSwap_7 : decode cX4_tipsAfterSwap 7 = .ok (.aload_n 2, 1) := by decide +kernel
theorem dX4_tipsAfterSwap_8 : decode cX4_tipsAfterSwap 8 = .ok (.getfield 112, 3) := by decide +kernel
theorem dX4_tipsAfterSwap_11 : decode cX4_tipsAfterSwap 11 = .ok (.aload_n 1, 1) := by decide +kernel
theorem dX4_tipsAfterSwap_12 : decode cX4_tipsAfterSwap 12 = .ok (.getfield 121, 3) := by decide +kernel
theorem dX4_tipsAfterSwap_15 : decode cX4_tipsAfterSwap 15 = .ok (.if_icmp .ne 22, 3) := by decide +kernel
theorem dX4_tipsAfterSwap_18 : decode cX4_tipsAfterSwap 18 = .ok (.iload 4, 2) := by decide +kernel
theorem dX4_tipsAfterSwap_20 : decode cX4_tipsAfterSwap 20 = .ok (.aload_n 2, 1) := by decide +kernel
theorem dX4_tipsAfterSwap_21 : decode cX4_tipsAfterSwap 21 = .ok (.getfield 115, 3) := by decide +kernel
theorem dX4_tipsAfterSwap_24 : decode cX4_tipsAfterSwap 24 = .ok (.aload_n 3, 1) := by decide +kernel
theorem dX4_tipsAfterSwap_25 : decode cX4_tipsAfterSwap 25 = .ok (.getfield 99, 3) := by decide +kernel
theorem dX4_tipsAfterSwap_28 : decode cX4_tipsAfterSwap 28 = .ok (.aload_n 2, 1) := by decide +kernel
theorem dX4_tipsAfterSwap_29 : decode cX4_tipsAfterSwap 29 = .ok (.getfield 99, 3) := by decide +kernel
theorem dX4_tipsAfterSwap_32 : decode cX4_tipsAfterSwap 32 = .ok (.isub, 1) := by decide +kernel
theorem dX4_tipsAfterSwap_33 : decode cX4_tipsAfterSwap 33 = .ok (.imul, 1) := by decide +kernel
theorem dX4_tipsAfterSwap_34 : decode cX4_tipsAfterSwap 34 = .ok (.iadd, 1) := by decide +kernel
theorem dX4_tipsAfterSwap_35 : decode cX4_tipsAfterSwap 35 = .ok (.istore 4, 2) := by decide +kernel
theorem dX4_tipsAfterSwap_37 : decode cX4_tipsAfterSwap 37 = .ok (.aload_n 3, 1) := by decide +kernel
theorem dX4_tipsAfterSwap_38 : decode cX4_tipsAfterSwap 38 = .ok (.getfield 112, 3) := by decide +kernel
theorem dX4_tipsAfterSwap_41 : decode cX4_tipsAfterSwap 41 = .ok (.aload_n 1, 1) := by decide +kernel
theorem dX4_tipsAfterSwap_42 : decode cX4_tipsAfterSwap 42 = .ok (.getfield 121, 3) := by decide +kernel
theorem dX4_tipsAfterSwap_45 : decode cX4_tipsAfterSwap 45 = .ok (.if_icmp .ne 22, 3) := by decide +kernel
theorem dX4_tipsAfterSwap_48 : decode cX4_tipsAfterSwap 48 = .ok (.iload 4, 2) := by decide +kernel
theorem dX4_tipsAfterSwap_50 : decode cX4_tipsAfterSwap 50 = .ok (.aload_n 3, 1) := by decide +kernel
theorem dX4_tipsAfterSwap_51 : decode cX4_tipsAfterSwap 51 = .ok (.getfield 115, 3) := by decide +kernel
theorem dX4_tipsAfterSwap_54 : decode cX4_tipsAfterSwap 54 = .ok (.aload_n 2, 1) := by decide +kernel
theorem dX4_tipsAfterSwap_55 : decode cX4_tipsAfterSwap 55 = .ok (.getfield 99, 3) := by decide +kernel
theorem dX4_tipsAfterSwap_58 : decode cX4_tipsAfterSwap 58 = .ok (.aload_n 3, 1) := by decide +kernel
theorem dX4_tipsAfterSwap_59 : decode cX4_tipsAfterSwap 59 = .ok (.getfield 99, 3) := by decide +kernel
theorem dX4_tipsAfterSwap_62 : decode cX4_tipsAfterSwap 62 = .ok (.isub, 1) := by decide +kernel
theorem dX4_tipsAfterSwap_63 : decode cX4_tipsAfterSwap 63 = .ok (.imul, 1) := by decide +kernel
theorem dX4_tipsAfterSwap_64 : decode cX4_tipsAfterSwap 64 = .ok (.iadd, 1) := by decide +kernel
theorem dX4_tipsAfterSwap_65 : decode cX4_tipsAfterSwap 65 = .ok (.istore 4, 2) := by decide +kernel
theorem dX4_tipsAfterSwap_67 : decode cX4_tipsAfterSwap 67 = .ok (.aload_n 1, 1) := by decide +kernel
theorem dX4_tipsAfterSwap_68 : decode cX4_tipsAfterSwap 68 = .ok (.iload 4, 2) := by decide +kernel
theorem dX4_tipsAfterSwap_70 : decode cX4_tipsAfterSwap 70 = .ok (.invokevirtual 172, 3) := by decide +kernel
theorem dX4_tipsAfterSwap_73 : decode cX4_tipsAfterSwap 73 = .ok (.ireturn, 1) := by decide +kernel
theorem dX4_seat_0 : decode cX4_seat 0 = .ok (.aload_n 1, 1) := by decide +kernel
theorem dX4_seat_1 : decode cX4_seat 1 = .ok (.aload_n 2, 1) := by decide +kernel
theorem dX4_seat_2 : decode cX4_seat 2 = .ok (.getfield 121, 3) := by decide +kernel
theorem dX4_seat_5 : decode cX4_seat 5 = .ok (.putfield 112, 3) := by decide +kernel
theorem dX4_seat_8 : decode cX4_seat 8 = .ok (.aload_n 1, 1) := by decide +kernel
theorem dX4_seat_9 : decode cX4_seat 9 = .ok (.iload_n 3, 1) := by decide +kernel
theorem dX4_seat_10 : decode cX4_seat 10 = .ok (.putfield 115, 3) := by decide +kernel
theorem dX4_seat_13 : decode cX4_seat 13 = .ok (.aload_n 2, 1) := by decide +kernel
theorem dX4_seat_14 : decode cX4_seat 14 = .ok (.iload_n 3, 1) := by decide +kernel
theorem dX4_seat_15 : decode cX4_seat 15 = .ok (.aload_n 1, 1) := by decide +kernel
theorem dX4_seat_16 : decode cX4_seat 16 = .ok (.getfield 118, 3) := by decide +kernel
theorem dX4_seat_19 : decode cX4_seat 19 = .ok (.invokevirtual 183, 3) := by decide +kernel
theorem dX4_seat_22 : decode cX4_seat 22 = .ok (.return_, 1) := by decide +kernel
theorem dX4_unseat_0 : decode cX4_unseat 0 = .ok (.aload_n 0, 1) := by decide +kernel
theorem dX4_unseat_1 : decode cX4_unseat 1 = .ok (.aload_n 1, 1) := by decide +kernel
theorem dX4_unseat_2 : decode cX4_unseat 2 = .ok (.getfield 112, 3) := by decide +kernel
theorem dX4_unseat_5 : decode cX4_unseat 5 = .ok (.invokevirtual 143, 3) := by decide +kernel
theorem dX4_unseat_8 : decode cX4_unseat 8 = .ok (.astore_n 2, 1) := by decide +kernel
theorem dX4_unseat_9 : decode cX4_unseat 9 = .ok (.aload_n 2, 1) := by decide +kernel
theorem dX4_unseat_10 : decode cX4_unseat 10 = .ok (.ifnull 12, 3) := by decide +kernel
theorem dX4_unseat_13 : decode cX4_unseat 13 = .ok (.aload_n 2, 1) := by decide +kernel
theorem dX4_unseat_14 : decode cX4_unseat 14 = .ok (.aload_n 1, 1) := by decide +kernel
theorem dX4_unseat_15 : decode cX4_unseat 15 = .ok (.getfield 115, 3) := by decide +kernel
theorem dX4_unseat_18 : decode cX4_unseat 18 = .ok (.iconst (-1), 1) := by decide +kernel
theorem dX4_unseat_19 : decode cX4_unseat 19 = .ok (.invokevirtual 183, 3) := by decide +kernel
theorem dX4_unseat_22 : decode cX4_unseat 22 = .ok (.aload_n 1, 1) := by decide +kernel
theorem dX4_unseat_23 : decode cX4_unseat 23 = .ok (.iconst (-1), 1) := by decide +kernel
theorem dX4_unseat_24 : decode cX4_unseat 24 = .ok (.putfield 112, 3) := by decide +kernel
theorem dX4_unseat_27 : decode cX4_unseat 27 = .ok (.aload_n 1, 1) := by decide +kernel
theorem dX4_unseat_28 : decode cX4_unseat 28 = .ok (.iconst 0, 1) := by decide +kernel
theorem dX4_unseat_29 : decode cX4_unseat 29 = .ok (.putfield 115, 3) := by decide +kernel
theorem dX4_unseat_32 : decode cX4_unseat 32 = .ok (.return_, 1) := by decide +kernel
theorem dX4_sellSeat_0 : decode cX4_sellSeat 0 = .ok (.aload_n 0, 1) := by decide +kernel
theorem dX4_sellSeat_1 : decode cX4_sellSeat 1 = .ok (.aload_n 2, 1) := by decide +kernel
theorem dX4_sellSeat_2 : decode cX4_sellSeat 2 = .ok (.iload_n 3, 1) := by decide +kernel
theorem dX4_sellSeat_3 : decode cX4_sellSeat 3 = .ok (.invokevirtual 169, 3) := by decide +kernel
theorem dX4_sellSeat_6 : decode cX4_sellSeat 6 = .ok (.istore 4, 2) := by decide +kernel
theorem dX4_sellSeat_8 : decode cX4_sellSeat 8 = .ok (.aload_n 1, 1) := by decide +kernel
theorem dX4_sellSeat_9 : decode cX4_sellSeat 9 = .ok (.dup, 1) := by decide +kernel
theorem dX4_sellSeat_10 : decode cX4_sellSeat 10 = .ok (.getfield 102, 3) := by decide +kernel
theorem dX4_sellSeat_13 : decode cX4_sellSeat 13 = .ok (.iload 4, 2) := by decide +kernel
theorem dX4_sellSeat_15 : decode cX4_sellSeat 15 = .ok (.isub, 1) := by decide +kernel
theorem dX4_sellSeat_16 : decode cX4_sellSeat 16 = .ok (.putfield 102, 3) := by decide +kernel
theorem dX4_sellSeat_19 : decode cX4_sellSeat 19 = .ok (.aload_n 0, 1) := by decide +kernel
theorem dX4_sellSeat_20 : decode cX4_sellSeat 20 = .ok (.dup, 1) := by decide +kernel
theorem dX4_sellSeat_21 : decode cX4_sellSeat 21 = .ok (.getfield 56, 3) := by decide +kernel
theorem dX4_sellSeat_24 : decode cX4_sellSeat 24 = .ok (.iload 4, 2) := by decide +kernel
theorem dX4_sellSeat_26 : decode cX4_sellSeat 26 = .ok (.iadd, 1) := by decide +kernel
theorem dX4_sellSeat_27 : decode cX4_sellSeat 27 = .ok (.putfield 56, 3) := by decide +kernel
theorem dX4_sellSeat_30 : decode cX4_sellSeat 30 = .ok (.aload_n 0, 1) := by decide +kernel
theorem dX4_sellSeat_31 : decode cX4_sellSeat 31 = .ok (.aload_n 1, 1) := by decide +kernel
theorem dX4_sellSeat_32 : decode cX4_sellSeat 32 = .ok (.invokevirtual 187, 3) := by decide +kernel
theorem dX4_sellSeat_35 : decode cX4_sellSeat 35 = .ok (.aload_n 0, 1) := by decide +kernel
theorem dX4_sellSeat_36 : decode cX4_sellSeat 36 = .ok (.aload_n 1, 1) := by decide +kernel
theorem dX4_sellSeat_37 : decode cX4_sellSeat 37 = .ok (.aload_n 2, 1) := by decide +kernel
theorem dX4_sellSeat_38 : decode cX4_sellSeat 38 = .ok (.iload_n 3, 1) := by decide +kernel
theorem dX4_sellSeat_39 : decode cX4_sellSeat 39 = .ok (.invokevirtual 190, 3) := by decide +kernel
theorem dX4_sellSeat_42 : decode cX4_sellSeat 42 = .ok (.aload_n 0, 1) := by decide +kernel
theorem dX4_sellSeat_43 : decode cX4_sellSeat 43 = .ok (.dup, 1) := by decide +kernel
theorem dX4_sellSeat_44 : decode cX4_sellSeat 44 = .ok (.getfield 38, 3) := by decide +kernel
theorem dX4_sellSeat_47 : decode cX4_sellSeat 47 = .ok (.iconst 1, 1) := by decide +kernel
theorem dX4_sellSeat_48 : decode cX4_sellSeat 48 = .ok (.iadd, 1) := by decide +kernel
theorem dX4_sellSeat_49 : decode cX4_sellSeat 49 = .ok (.putfield 38, 3) := by decide +kernel
theorem dX4_sellSeat_52 : decode cX4_sellSeat 52 = .ok (.iload 4, 2) := by decide +kernel
theorem dX4_sellSeat_54 : decode cX4_sellSeat 54 = .ok (.ireturn, 1) := by decide +kernel
theorem dX4_moveWeight_0 : decode cX4_moveWeight 0 = .ok (.iload_n 3, 1) := by decide +kernel
theorem dX4_moveWeight_1 : decode cX4_moveWeight 1 = .ok (.aload_n 0, 1) := by decide +kernel
theorem dX4_moveWeight_2 : decode cX4_moveWeight 2 = .ok (.aload_n 1, 1) := by decide +kernel
theorem dX4_moveWeight_3 : decode cX4_moveWeight 3 = .ok (.aload_n 2, 1) := by decide +kernel
theorem dX4_moveWeight_4 : decode cX4_moveWeight 4 = .ok (.invokevirtual 175, 3) := by decide +kernel
theorem dX4_moveWeight_7 : decode cX4_moveWeight 7 = .ok (.imul, 1) := by decide +kernel
theorem dX4_moveWeight_8 : decode cX4_moveWeight 8 = .ok (.istore 4, 2) := by decide +kernel
theorem dX4_moveWeight_10 : decode cX4_moveWeight 10 = .ok (.aload_n 2, 1) := by decide +kernel
theorem dX4_moveWeight_11 : decode cX4_moveWeight 11 = .ok (.dup, 1) := by decide +kernel
theorem dX4_moveWeight_12 : decode cX4_moveWeight 12 = .ok (.getfield 102, 3) := by decide +kernel
theorem dX4_moveWeight_15 : decode cX4_moveWeight 15 = .ok (.iload 4, 2) := by decide +kernel
theorem dX4_moveWeight_17 : decode cX4_moveWeight 17 = .ok (.isub, 1) := by decide +kernel
theorem dX4_moveWeight_18 : decode cX4_moveWeight 18 = .ok (.putfield 102, 3) := by decide +kernel
theorem dX4_moveWeight_21 : decode cX4_moveWeight 21 = .ok (.aload_n 1, 1) := by decide +kernel
theorem dX4_moveWeight_22 : decode cX4_moveWeight 22 = .ok (.dup, 1) := by decide +kernel
theorem dX4_moveWeight_23 : decode cX4_moveWeight 23 = .ok (.getfield 102, 3) := by decide +kernel
theorem dX4_moveWeight_26 : decode cX4_moveWeight 26 = .ok (.iload 4, 2) := by decide +kernel
theorem dX4_moveWeight_28 : decode cX4_moveWeight 28 = .ok (.iadd, 1) := by decide +kernel
theorem dX4_moveWeight_29 : decode cX4_moveWeight 29 = .ok (.putfield 102, 3) := by decide +kernel
theorem dX4_moveWeight_32 : decode cX4_moveWeight 32 = .ok (.aload_n 1, 1) := by decide +kernel
theorem dX4_moveWeight_33 : decode cX4_moveWeight 33 = .ok (.dup, 1) := by decide +kernel
theorem dX4_moveWeight_34 : decode cX4_moveWeight 34 = .ok (.getfield 99, 3) := by decide +kernel
theorem dX4_moveWeight_37 : decode cX4_moveWeight 37 = .ok (.iload_n 3, 1) := by decide +kernel
theorem dX4_moveWeight_38 : decode cX4_moveWeight 38 = .ok (.isub, 1) := by decide +kernel
theorem dX4_moveWeight_39 : decode cX4_moveWeight 39 = .ok (.putfield 99, 3) := by decide +kernel
theorem dX4_moveWeight_42 : decode cX4_moveWeight 42 = .ok (.aload_n 2, 1) := by decide +kernel
theorem dX4_moveWeight_43 : decode cX4_moveWeight 43 = .ok (.dup, 1) := by decide +kernel
theorem dX4_moveWeight_44 : decode cX4_moveWeight 44 = .ok (.getfield 99, 3) := by decide +kernel
theorem dX4_moveWeight_47 : decode cX4_moveWeight 47 = .ok (.iload_n 3, 1) := by decide +kernel
theorem dX4_moveWeight_48 : decode cX4_moveWeight 48 = .ok (.iadd, 1) := by decide +kernel
theorem dX4_moveWeight_49 : decode cX4_moveWeight 49 = .ok (.putfield 99, 3) := by decide +kernel
theorem dX4_moveWeight_52 : decode cX4_moveWeight 52 = .ok (.aload_n 0, 1) := by decide +kernel
theorem dX4_moveWeight_53 : decode cX4_moveWeight 53 = .ok (.dup, 1) := by decide +kernel
theorem dX4_moveWeight_54 : decode cX4_moveWeight 54 = .ok (.getfield 41, 3) := by decide +kernel
theorem dX4_moveWeight_57 : decode cX4_moveWeight 57 = .ok (.iload_n 3, 1) := by decide +kernel
theorem dX4_moveWeight_58 : decode cX4_moveWeight 58 = .ok (.iadd, 1) := by decide +kernel
theorem dX4_moveWeight_59 : decode cX4_moveWeight 59 = .ok (.putfield 41, 3) := by decide +kernel
theorem dX4_moveWeight_62 : decode cX4_moveWeight 62 = .ok (.iload 4, 2) := by decide +kernel
theorem dX4_moveWeight_64 : decode cX4_moveWeight 64 = .ok (.ireturn, 1) := by decide +kernel
theorem dX4_exchangeSeats_0 : decode cX4_exchangeSeats 0 = .ok (.aload_n 0, 1) := by decide +kernel
theorem dX4_exchangeSeats_1 : decode cX4_exchangeSeats 1 = .ok (.aload_n 1, 1) := by decide +kernel
theorem dX4_exchangeSeats_2 : decode cX4_exchangeSeats 2 = .ok (.getfield 112, 3) := by decide +kernel
theorem dX4_exchangeSeats_5 : decode cX4_exchangeSeats 5 = .ok (.invokevirtual 143, 3) := by decide +kernel
theorem dX4_exchangeSeats_8 : decode cX4_exchangeSeats 8 = .ok (.astore_n 3, 1) := by decide +kernel
theorem dX4_exchangeSeats_9 : decode cX4_exchangeSeats 9 = .ok (.aload_n 0, 1) := by decide +kernel
theorem dX4_exchangeSeats_10 : decode cX4_exchangeSeats 10 = .ok (.aload_n 2, 1) := by decide +kernel
theorem dX4_exchangeSeats_11 : decode cX4_exchangeSeats 11 = .ok (.getfield 112, 3) := by decide +kernel
theorem dX4_exchangeSeats_14 : decode cX4_exchangeSeats 14 = .ok (.invokevirtual 143, 3) := by decide +kernel
theorem dX4_exchangeSeats_17 : decode cX4_exchangeSeats 17 = .ok (.astore 4, 2) := by decide +kernel
theorem dX4_exchangeSeats_19 : decode cX4_exchangeSeats 19 = .ok (.aload_n 3, 1) := by decide +kernel
theorem dX4_exchangeSeats_20 : decode cX4_exchangeSeats 20 = .ok (.ifnull 8, 3) := by decide +kernel
theorem dX4_exchangeSeats_23 : decode cX4_exchangeSeats 23 = .ok (.aload 4, 2) := by decide +kernel
theorem dX4_exchangeSeats_25 : decode cX4_exchangeSeats 25 = .ok (.ifnonnull 5, 3) := by decide +kernel
theorem dX4_exchangeSeats_28 : decode cX4_exchangeSeats 28 = .ok (.iconst 0, 1) := by decide +kernel
theorem dX4_exchangeSeats_29 : decode cX4_exchangeSeats 29 = .ok (.ireturn, 1) := by decide +kernel
theorem dX4_exchangeSeats_30 : decode cX4_exchangeSeats 30 = .ok (.aload_n 0, 1) := by decide +kernel
theorem dX4_exchangeSeats_31 : decode cX4_exchangeSeats 31 = .ok (.aload_n 2, 1) := by decide +kernel
theorem dX4_exchangeSeats_32 : decode cX4_exchangeSeats 32 = .ok (.invokevirtual 151, 3) := by decide +kernel
theorem dX4_exchangeSeats_35 : decode cX4_exchangeSeats 35 = .ok (.aload_n 0, 1) := by decide +kernel
theorem dX4_exchangeSeats_36 : decode cX4_exchangeSeats 36 = .ok (.aload_n 1, 1) := by decide +kernel
theorem dX4_exchangeSeats_37 : decode cX4_exchangeSeats 37 = .ok (.invokevirtual 151, 3) := by decide +kernel
theorem dX4_exchangeSeats_40 : decode cX4_exchangeSeats 40 = .ok (.isub, 1) := by decide +kernel
theorem dX4_exchangeSeats_41 : decode cX4_exchangeSeats 41 = .ok (.istore 5, 2) := by decide +kernel
theorem dX4_exchangeSeats_43 : decode cX4_exchangeSeats 43 = .ok (.aload_n 1, 1) := by decide +kernel
theorem dX4_exchangeSeats_44 : decode cX4_exchangeSeats 44 = .ok (.getfield 115, 3) := by decide +kernel
theorem dX4_exchangeSeats_47 : decode cX4_exchangeSeats 47 = .ok (.istore 6, 2) := by decide +kernel
theorem dX4_exchangeSeats_49 : decode cX4_exchangeSeats 49 = .ok (.aload_n 1, 1) := by decide +kernel
theorem dX4_exchangeSeats_50 : decode cX4_exchangeSeats 50 = .ok (.dup, 1) := by decide +kernel
theorem dX4_exchangeSeats_51 : decode cX4_exchangeSeats 51 = .ok (.getfield 102, 3) := by decide +kernel
theorem dX4_exchangeSeats_54 : decode cX4_exchangeSeats 54 = .ok (.iload 5, 2) := by decide +kernel
theorem dX4_exchangeSeats_56 : decode cX4_exchangeSeats 56 = .ok (.isub, 1) := by decide +kernel
theorem dX4_exchangeSeats_57 : decode cX4_exchangeSeats 57 = .ok (.putfield 102, 3) := by decide +kernel
theorem dX4_exchangeSeats_60 : decode cX4_exchangeSeats 60 = .ok (.aload_n 2, 1) := by decide +kernel
theorem dX4_exchangeSeats_61 : decode cX4_exchangeSeats 61 = .ok (.dup, 1) := by decide +kernel
theorem dX4_exchangeSeats_62 : decode cX4_exchangeSeats 62 = .ok (.getfield 102, 3) := by decide +kernel
theorem dX4_exchangeSeats_65 : decode cX4_exchangeSeats 65 = .ok (.iload 5, 2) := by decide +kernel
theorem dX4_exchangeSeats_67 : decode cX4_exchangeSeats 67 = .ok (.iadd, 1) := by decide +kernel
theorem dX4_exchangeSeats_68 : decode cX4_exchangeSeats 68 = .ok (.putfield 102, 3) := by decide +kernel
theorem dX4_exchangeSeats_71 : decode cX4_exchangeSeats 71 = .ok (.aload_n 0, 1) := by decide +kernel
theorem dX4_exchangeSeats_72 : decode cX4_exchangeSeats 72 = .ok (.aload_n 1, 1) := by decide +kernel
theorem dX4_exchangeSeats_73 : decode cX4_exchangeSeats 73 = .ok (.aload 4, 2) := by decide +kernel
theorem dX4_exchangeSeats_75 : decode cX4_exchangeSeats 75 = .ok (.aload_n 2, 1) := by decide +kernel
theorem dX4_exchangeSeats_76 : decode cX4_exchangeSeats 76 = .ok (.getfield 115, 3) := by decide +kernel
theorem dX4_exchangeSeats_79 : decode cX4_exchangeSeats 79 = .ok (.invokevirtual 190, 3) := by decide +kernel
theorem dX4_exchangeSeats_82 : decode cX4_exchangeSeats 82 = .ok (.aload_n 0, 1) := by decide +kernel
theorem dX4_exchangeSeats_83 : decode cX4_exchangeSeats 83 = .ok (.aload_n 2, 1) := by decide +kernel
theorem dX4_exchangeSeats_84 : decode cX4_exchangeSeats 84 = .ok (.aload_n 3, 1) := by decide +kernel
theorem dX4_exchangeSeats_85 : decode cX4_exchangeSeats 85 = .ok (.iload 6, 2) := by decide +kernel
theorem dX4_exchangeSeats_87 : decode cX4_exchangeSeats 87 = .ok (.invokevirtual 190, 3) := by decide +kernel
theorem dX4_exchangeSeats_90 : decode cX4_exchangeSeats 90 = .ok (.iload 5, 2) := by decide +kernel
theorem dX4_exchangeSeats_92 : decode cX4_exchangeSeats 92 = .ok (.ireturn, 1) := by decide +kernel
theorem dX4_allowsDays_0 : decode cX4_allowsDays 0 = .ok (.aload_n 0, 1) := by decide +kernel
theorem dX4_allowsDays_1 : decode cX4_allowsDays 1 = .ok (.getfield 34, 3) := by decide +kernel
theorem dX4_allowsDays_4 : decode cX4_allowsDays 4 = .ok (.iload_n 1, 1) := by decide +kernel
theorem dX4_allowsDays_5 : decode cX4_allowsDays 5 = .ok (.iadd, 1) := by decide +kernel
theorem dX4_allowsDays_6 : decode cX4_allowsDays 6 = .ok (.sipush 9999, 3) := by decide +kernel
theorem dX4_allowsDays_9 : decode cX4_allowsDays 9 = .ok (.if_icmp .gt 7, 3) := by decide +kernel
theorem dX4_allowsDays_12 : decode cX4_allowsDays 12 = .ok (.iconst 1, 1) := by decide +kernel
theorem dX4_allowsDays_13 : decode cX4_allowsDays 13 = .ok (.goto 4, 3) := by decide +kernel
theorem dX4_allowsDays_16 : decode cX4_allowsDays 16 = .ok (.iconst 0, 1) := by decide +kernel
theorem dX4_allowsDays_17 : decode cX4_allowsDays 17 = .ok (.ireturn, 1) := by decide +kernel
theorem dX4_passDays_0 : decode cX4_passDays 0 = .ok (.iconst 0, 1) := by decide +kernel
theorem dX4_passDays_1 : decode cX4_passDays 1 = .ok (.istore_n 2, 1) := by decide +kernel
theorem dX4_passDays_2 : decode cX4_passDays 2 = .ok (.iconst 0, 1) := by decide +kernel
theorem dX4_passDays_3 : decode cX4_passDays 3 = .ok (.istore_n 3, 1) := by decide +kernel
theorem dX4_passDays_4 : decode cX4_passDays 4 = .ok (.iload_n 3, 1) := by decide +kernel
theorem dX4_passDays_5 : decode cX4_passDays 5 = .ok (.iload_n 1, 1) := by decide +kernel
theorem dX4_passDays_6 : decode cX4_passDays 6 = .ok (.if_icmp .ge 34, 3) := by decide +kernel
theorem dX4_passDays_9 : decode cX4_passDays 9 = .ok (.aload_n 0, 1) := by decide +kernel
theorem dX4_passDays_10 : decode cX4_passDays 10 = .ok (.dup, 1) := by decide +kernel
theorem dX4_passDays_11 : decode cX4_passDays 11 = .ok (.getfield 34, 3) := by decide +kernel
theorem dX4_passDays_14 : decode cX4_passDays 14 = .ok (.iconst 1, 1) := by decide +kernel
theorem dX4_passDays_15 : decode cX4_passDays 15 = .ok (.iadd, 1) := by decide +kernel
theorem dX4_passDays_16 : decode cX4_passDays 16 = .ok (.putfield 34, 3) := by decide +kernel
theorem dX4_passDays_19 : decode cX4_passDays 19 = .ok (.aload_n 0, 1) := by decide +kernel
theorem dX4_passDays_20 : decode cX4_passDays 20 = .ok (.invokevirtual 194, 3) := by decide +kernel
theorem dX4_passDays_23 : decode cX4_passDays 23 = .ok (.aload_n 0, 1) := by decide +kernel
theorem dX4_passDays_24 : decode cX4_passDays 24 = .ok (.invokevirtual 197, 3) := by decide +kernel
theorem dX4_passDays_27 : decode cX4_passDays 27 = .ok (.iload_n 2, 1) := by decide +kernel
theorem dX4_passDays_28 : decode cX4_passDays 28 = .ok (.aload_n 0, 1) := by decide +kernel
theorem dX4_passDays_29 : decode cX4_passDays 29 = .ok (.invokevirtual 200, 3) := by decide +kernel
theorem dX4_passDays_32 : decode cX4_passDays 32 = .ok (.iadd, 1) := by decide +kernel
theorem dX4_passDays_33 : decode cX4_passDays 33 = .ok (.istore_n 2, 1) := by decide +kernel
theorem dX4_passDays_34 : decode cX4_passDays 34 = .ok (.iinc 3 1, 3) := by decide +kernel
theorem dX4_passDays_37 : decode cX4_passDays 37 = .ok (.goto (-33), 3) := by decide +kernel
theorem dX4_passDays_40 : decode cX4_passDays 40 = .ok (.iload_n 2, 1) := by decide +kernel
theorem dX4_passDays_41 : decode cX4_passDays 41 = .ok (.ireturn, 1) := by decide +kernel
theorem dX4_payIncomes_0 : decode cX4_payIncomes 0 = .ok (.iconst 0, 1) := by decide +kernel
theorem dX4_payIncomes_1 : decode cX4_payIncomes 1 = .ok (.istore_n 1, 1) := by decide +kernel
theorem dX4_payIncomes_2 : decode cX4_payIncomes 2 = .ok (.iload_n 1, 1) := by decide +kernel
theorem dX4_payIncomes_3 : decode cX4_payIncomes 3 = .ok (.aload_n 0, 1) := by decide +kernel
theorem dX4_payIncomes_4 : decode cX4_payIncomes 4 = .ok (.getfield 50, 3) := by decide +kernel
theorem dX4_payIncomes_7 : decode cX4_payIncomes 7 = .ok (.if_icmp .ge 71, 3) := by decide +kernel
theorem dX4_payIncomes_10 : decode cX4_payIncomes 10 = .ok (.aload_n 0, 1) := by decide +kernel
theorem dX4_payIncomes_11 : decode cX4_payIncomes 11 = .ok (.getfield 19, 3) := by decide +kernel
theorem dX4_payIncomes_14 : decode cX4_payIncomes 14 = .ok (.iload_n 1, 1) := by decide +kernel
theorem dX4_payIncomes_15 : decode cX4_payIncomes 15 = .ok (.aaload, 1) := by decide +kernel
theorem dX4_payIncomes_16 : decode cX4_payIncomes 16 = .ok (.astore_n 2, 1) := by decide +kernel
theorem dX4_payIncomes_17 : decode cX4_payIncomes 17 = .ok (.aload_n 0, 1) := by decide +kernel
theorem dX4_payIncomes_18 : decode cX4_payIncomes 18 = .ok (.aload_n 2, 1) := by decide +kernel
theorem dX4_payIncomes_19 : decode cX4_payIncomes 19 = .ok (.invokevirtual 207, 3) := by decide +kernel
theorem dX4_payIncomes_22 : decode cX4_payIncomes 22 = .ok (.istore_n 3, 1) := by decide +kernel
theorem dX4_payIncomes_23 : decode cX4_payIncomes 23 = .ok (.iload_n 3, 1) := by decide +kernel
theorem dX4_payIncomes_24 : decode cX4_payIncomes 24 = .ok (.ifCond .le 14, 3) := by decide +kernel
theorem dX4_payIncomes_27 : decode cX4_payIncomes 27 = .ok (.iload_n 3, 1) := by decide +kernel
theorem dX4_payIncomes_28 : decode cX4_payIncomes 28 = .ok (.aload_n 0, 1) := by decide +kernel
theorem dX4_payIncomes_29 : decode cX4_payIncomes 29 = .ok (.getfield 56, 3) := by decide +kernel
theorem dX4_payIncomes_32 : decode cX4_payIncomes 32 = .ok (.invokestatic 210, 3) := by decide +kernel
theorem dX4_payIncomes_35 : decode cX4_payIncomes 35 = .ok (.goto 13, 3) := by decide +kernel
theorem dX4_payIncomes_38 : decode cX4_payIncomes 38 = .ok (.iload_n 3, 1) := by decide +kernel
theorem dX4_payIncomes_39 : decode cX4_payIncomes 39 = .ok (.ineg, 1) := by decide +kernel
theorem dX4_payIncomes_40 : decode cX4_payIncomes 40 = .ok (.aload_n 2, 1) := by decide +kernel
theorem dX4_payIncomes_41 : decode cX4_payIncomes 41 = .ok (.getfield 102, 3) := by decide +kernel
theorem dX4_payIncomes_44 : decode cX4_payIncomes 44 = .ok (.invokestatic 210, 3) := by decide +kernel
theorem dX4_payIncomes_47 : decode cX4_payIncomes 47 = .ok (.ineg, 1) := by decide +kernel
theorem dX4_payIncomes_48 : decode cX4_payIncomes 48 = .ok (.istore 4, 2) := by decide +kernel
theorem dX4_payIncomes_50 : decode cX4_payIncomes 50 = .ok (.aload_n 0, 1) := by decide +kernel
theorem dX4_payIncomes_51 : decode cX4_payIncomes 51 = .ok (.dup, 1) := by decide +kernel
theorem dX4_payIncomes_52 : decode cX4_payIncomes 52 = .ok (.getfield 56, 3) := by decide +kernel
theorem dX4_payIncomes_55 : decode cX4_payIncomes 55 = .ok (.iload 4, 2) := by decide +kernel
theorem dX4_payIncomes_57 : decode cX4_payIncomes 57 = .ok (.isub, 1) := by decide +kernel
theorem dX4_payIncomes_58 : decode cX4_payIncomes 58 = .ok (.putfield 56, 3) := by decide +kernel
theorem dX4_payIncomes_61 : decode cX4_payIncomes 61 = .ok (.aload_n 2, 1) := by decide +kernel
theorem dX4_payIncomes_62 : decode cX4_payIncomes 62 = .ok (.dup, 1) := by decide +kernel
theorem dX4_payIncomes_63 : decode cX4_payIncomes 63 = .ok (.getfield 102, 3) := by decide +kernel
theorem dX4_payIncomes_66 : decode cX4_payIncomes 66 = .ok (.iload 4, 2) := by decide +kernel
theorem dX4_payIncomes_68 : decode cX4_payIncomes 68 = .ok (.iadd, 1) := by decide +kernel
theorem dX4_payIncomes_69 : decode cX4_payIncomes 69 = .ok (.putfield 102, 3) := by decide +kernel
theorem dX4_payIncomes_72 : decode cX4_payIncomes 72 = .ok (.iinc 1 1, 3) := by decide +kernel
theorem dX4_payIncomes_75 : decode cX4_payIncomes 75 = .ok (.goto (-73), 3) := by decide +kernel
theorem dX4_payIncomes_78 : decode cX4_payIncomes 78 = .ok (.return_, 1) := by decide +kernel
theorem dX4_ageTraders_0 : decode cX4_ageTraders 0 = .ok (.iconst 0, 1) := by decide +kernel
theorem dX4_ageTraders_1 : decode cX4_ageTraders 1 = .ok (.istore_n 1, 1) := by decide +kernel
theorem dX4_ageTraders_2 : decode cX4_ageTraders 2 = .ok (.iload_n 1, 1) := by decide +kernel
theorem dX4_ageTraders_3 : decode cX4_ageTraders 3 = .ok (.aload_n 0, 1) := by decide +kernel
theorem dX4_ageTraders_4 : decode cX4_ageTraders 4 = .ok (.getfield 50, 3) := by decide +kernel
theorem dX4_ageTraders_7 : decode cX4_ageTraders 7 = .ok (.if_icmp .ge 49, 3) := by decide +kernel
theorem dX4_ageTraders_10 : decode cX4_ageTraders 10 = .ok (.aload_n 0, 1) := by decide +kernel
theorem dX4_ageTraders_11 : decode cX4_ageTraders 11 = .ok (.getfield 19, 3) := by decide +kernel
theorem dX4_ageTraders_14 : decode cX4_ageTraders 14 = .ok (.iload_n 1, 1) := by decide +kernel
theorem dX4_ageTraders_15 : decode cX4_ageTraders 15 = .ok (.aaload, 1) := by decide +kernel
theorem dX4_ageTraders_16 : decode cX4_ageTraders 16 = .ok (.astore_n 2, 1) := by decide +kernel
theorem dX4_ageTraders_17 : decode cX4_ageTraders 17 = .ok (.aload_n 2, 1) := by decide +kernel
theorem dX4_ageTraders_18 : decode cX4_ageTraders 18 = .ok (.getfield 108, 3) := by decide +kernel
theorem dX4_ageTraders_21 : decode cX4_ageTraders 21 = .ok (.ifCond .eq 29, 3) := by decide +kernel
theorem dX4_ageTraders_24 : decode cX4_ageTraders 24 = .ok (.aload_n 2, 1) := by decide +kernel
theorem dX4_ageTraders_25 : decode cX4_ageTraders 25 = .ok (.dup, 1) := by decide +kernel
theorem dX4_ageTraders_26 : decode cX4_ageTraders 26 = .ok (.getfield 105, 3) := by decide +kernel
theorem dX4_ageTraders_29 : decode cX4_ageTraders 29 = .ok (.iconst 1, 1) := by decide +kernel
theorem dX4_ageTraders_30 : decode cX4_ageTraders 30 = .ok (.iadd, 1) := by decide +kernel
theorem dX4_ageTraders_31 : decode cX4_ageTraders 31 = .ok (.putfield 105, 3) := by decide +kernel
theorem dX4_ageTraders_34 : decode cX4_ageTraders 34 = .ok (.aload_n 2, 1) := by decide +kernel
theorem dX4_ageTraders_35 : decode cX4_ageTraders 35 = .ok (.getfield 105, 3) := by decide +kernel
theorem dX4_ageTraders_38 : decode cX4_ageTraders 38 = .ok (.aload_n 0, 1) := by decide +kernel
theorem dX4_ageTraders_39 : decode cX4_ageTraders 39 = .ok (.getfield 68, 3) := by decide +kernel
theorem dX4_ageTraders_42 : decode cX4_ageTraders 42 = .ok (.if_icmp .le 8, 3) := by decide +kernel
theorem dX4_ageTraders_45 : decode cX4_ageTraders 45 = .ok (.aload_n 0, 1) := by decide +kernel
theorem dX4_ageTraders_46 : decode cX4_ageTraders 46 = .ok (.aload_n 2, 1) := by decide +kernel
theorem dX4_ageTraders_47 : decode cX4_ageTraders 47 = .ok (.invokevirtual 213, 3) := by decide +kernel
theorem dX4_ageTraders_50 : decode cX4_ageTraders 50 = .ok (.iinc 1 1, 3) := by decide +kernel
theorem dX4_ageTraders_53 : decode cX4_ageTraders 53 = .ok (.goto (-51), 3) := by decide +kernel
theorem dX4_ageTraders_56 : decode cX4_ageTraders 56 = .ok (.return_, 1) := by decide +kernel
theorem dX4_retire_0 : decode cX4_retire 0 = .ok (.aload_n 0, 1) := by decide +kernel
theorem dX4_retire_1 : decode cX4_retire 1 = .ok (.aload_n 1, 1) := by decide +kernel
theorem dX4_retire_2 : decode cX4_retire 2 = .ok (.invokevirtual 187, 3) := by decide +kernel
theorem dX4_retire_5 : decode cX4_retire 5 = .ok (.aload_n 0, 1) := by decide +kernel
theorem dX4_retire_6 : decode cX4_retire 6 = .ok (.aload_n 1, 1) := by decide +kernel
theorem dX4_retire_7 : decode cX4_retire 7 = .ok (.aload_n 1, 1) := by decide +kernel
theorem dX4_retire_8 : decode cX4_retire 8 = .ok (.getfield 102, 3) := by decide +kernel
theorem dX4_retire_11 : decode cX4_retire 11 = .ok (.invokevirtual 216, 3) := by decide +kernel
theorem dX4_retire_14 : decode cX4_retire 14 = .ok (.aload_n 1, 1) := by decide +kernel
theorem dX4_retire_15 : decode cX4_retire 15 = .ok (.iconst 0, 1) := by decide +kernel
theorem dX4_retire_16 : decode cX4_retire 16 = .ok (.putfield 108, 3) := by decide +kernel
theorem dX4_retire_19 : decode cX4_retire 19 = .ok (.aload_n 0, 1) := by decide +kernel
theorem dX4_retire_20 : decode cX4_retire 20 = .ok (.getfield 26, 3) := by decide +kernel
theorem dX4_retire_23 : decode cX4_retire 23 = .ok (.iconst 2, 1) := by decide +kernel
theorem dX4_retire_24 : decode cX4_retire 24 = .ok (.aload_n 1, 1) := by decide +kernel
theorem dX4_retire_25 : decode cX4_retire 25 = .ok (.getfield 118, 3) := by decide +kernel
theorem dX4_retire_28 : decode cX4_retire 28 = .ok (.aload_n 0, 1) := by decide +kernel
theorem dX4_retire_29 : decode cX4_retire 29 = .ok (.getfield 34, 3) := by decide +kernel
theorem dX4_retire_32 : decode cX4_retire 32 = .ok (.invokevirtual 220, 3) := by decide +kernel
theorem dX4_retire_35 : decode cX4_retire 35 = .ok (.return_, 1) := by decide +kernel
theorem dX4_payToBank_0 : decode cX4_payToBank 0 = .ok (.iload_n 2, 1) := by decide +kernel
theorem dX4_payToBank_1 : decode cX4_payToBank 1 = .ok (.aload_n 1, 1) := by decide +kernel
theorem dX4_payToBank_2 : decode cX4_payToBank 2 = .ok (.getfield 102, 3) := by decide +kernel
theorem dX4_payToBank_5 : decode cX4_payToBank 5 = .ok (.invokestatic 210, 3) := by decide +kernel
theorem dX4_payToBank_8 : decode cX4_payToBank 8 = .ok (.istore_n 3, 1) := by decide +kernel
theorem dX4_payToBank_9 : decode cX4_payToBank 9 = .ok (.aload_n 1, 1) := by decide +kernel
theorem dX4_payToBank_10 : decode cX4_payToBank 10 = .ok (.dup, 1) := by decide +kernel
theorem dX4_payToBank_11 : decode cX4_payToBank 11 = .ok (.getfield 102, 3) := by decide +kernel
theorem dX4_payToBank_14 : decode cX4_payToBank 14 = .ok (.iload_n 3, 1) := by decide +kernel
theorem dX4_payToBank_15 : decode cX4_payToBank 15 = .ok (.isub, 1) := by decide +kernel
theorem dX4_payToBank_16 : decode cX4_payToBank 16 = .ok (.putfield 102, 3) := by decide +kernel
theorem dX4_payToBank_19 : decode cX4_payToBank 19 = .ok (.aload_n 0, 1) := by decide +kernel
theorem dX4_payToBank_20 : decode cX4_payToBank 20 = .ok (.dup, 1) := by decide +kernel
theorem dX4_payToBank_21 : decode cX4_payToBank 21 = .ok (.getfield 56, 3) := by decide +kernel
theorem dX4_payToBank_24 : decode cX4_payToBank 24 = .ok (.iload_n 3, 1) := by decide +kernel
theorem dX4_payToBank_25 : decode cX4_payToBank 25 = .ok (.iadd, 1) := by decide +kernel
theorem dX4_payToBank_26 : decode cX4_payToBank 26 = .ok (.putfield 56, 3) := by decide +kernel
theorem dX4_payToBank_29 : decode cX4_payToBank 29 = .ok (.return_, 1) := by decide +kernel
theorem dX4_tipBoards_0 : decode cX4_tipBoards 0 = .ok (.iconst 0, 1) := by decide +kernel
theorem dX4_tipBoards_1 : decode cX4_tipBoards 1 = .ok (.istore_n 1, 1) := by decide +kernel
theorem dX4_tipBoards_2 : decode cX4_tipBoards 2 = .ok (.iconst 0, 1) := by decide +kernel
theorem dX4_tipBoards_3 : decode cX4_tipBoards 3 = .ok (.istore_n 2, 1) := by decide +kernel
theorem dX4_tipBoards_4 : decode cX4_tipBoards 4 = .ok (.iload_n 2, 1) := by decide +kernel
theorem dX4_tipBoards_5 : decode cX4_tipBoards 5 = .ok (.aload_n 0, 1) := by decide +kernel
theorem dX4_tipBoards_6 : decode cX4_tipBoards 6 = .ok (.getfield 47, 3) := by decide +kernel
theorem dX4_tipBoards_9 : decode cX4_tipBoards 9 = .ok (.if_icmp .ge 73, 3) := by decide +kernel
theorem dX4_tipBoards_12 : decode cX4_tipBoards 12 = .ok (.aload_n 0, 1) := by decide +kernel
theorem dX4_tipBoards_13 : decode cX4_tipBoards 13 = .ok (.getfield 11, 3) := by decide +kernel
theorem dX4_tipBoards_16 : decode cX4_tipBoards 16 = .ok (.iload_n 2, 1) := by decide +kernel
theorem dX4_tipBoards_17 : decode cX4_tipBoards 17 = .ok (.aaload, 1) := by decide +kernel
theorem dX4_tipBoards_18 : decode cX4_tipBoards 18 = .ok (.astore_n 3, 1) := by decide +kernel
theorem dX4_tipBoards_19 : decode cX4_tipBoards 19 = .ok (.aload_n 0, 1) := by decide +kernel
theorem dX4_tipBoards_20 : decode cX4_tipBoards 20 = .ok (.aload_n 3, 1) := by decide +kernel
theorem dX4_tipBoards_21 : decode cX4_tipBoards 21 = .ok (.invokevirtual 122, 3) := by decide +kernel
theorem dX4_tipBoards_24 : decode cX4_tipBoards 24 = .ok (.istore 4, 2) := by decide +kernel
theorem dX4_tipBoards_26 : decode cX4_tipBoards 26 = .ok (.iconst 0, 1) := by decide +kernel
theorem dX4_tipBoards_27 : decode cX4_tipBoards 27 = .ok (.istore 5, 2) := by decide +kernel
theorem dX4_tipBoards_29 : decode cX4_tipBoards 29 = .ok (.iload 5, 2) := by decide +kernel
theorem dX4_tipBoards_31 : decode cX4_tipBoards 31 = .ok (.bipush 12, 2) := by decide +kernel
theorem dX4_tipBoards_33 : decode cX4_tipBoards 33 = .ok (.if_icmp .ge 43, 3) := by decide +kernel
theorem dX4_tipBoards_36 : decode cX4_tipBoards 36 = .ok (.aload_n 3, 1) := by decide +kernel
theorem dX4_tipBoards_37 : decode cX4_tipBoards 37 = .ok (.iload 4, 2) := by decide +kernel
theorem dX4_tipBoards_39 : decode cX4_tipBoards 39 = .ok (.invokevirtual 172, 3) := by decide +kernel
theorem dX4_tipBoards_42 : decode cX4_tipBoards 42 = .ok (.ifCond .eq 34, 3) := by decide +kernel
theorem dX4_tipBoards_45 : decode cX4_tipBoards 45 = .ok (.aload_n 0, 1) := by decide +kernel
theorem dX4_tipBoards_46 : decode cX4_tipBoards 46 = .ok (.aload_n 3, 1) := by decide +kernel
theorem dX4_tipBoards_47 : decode cX4_tipBoards 47 = .ok (.iload 4, 2) := by decide +kernel
theorem dX4_tipBoards_49 : decode cX4_tipBoards 49 = .ok (.ifCond .le 7, 3) := by decide +kernel
theorem dX4_tipBoards_52 : decode cX4_tipBoards 52 = .ok (.iconst 1, 1) := by decide +kernel
theorem dX4_tipBoards_53 : decode cX4_tipBoards 53 = .ok (.goto 4, 3) := by decide +kernel
theorem dX4_tipBoards_56 : decode cX4_tipBoards 56 = .ok (.iconst (-1), 1) := by decide +kernel
theorem dX4_tipBoards_57 : decode cX4_tipBoards 57 = .ok (.invokevirtual 223, 3) := by decide +kernel
theorem dX4_tipBoards_60 : decode cX4_tipBoards 60 = .ok (.iinc 1 1, 3) := by decide +kernel
theorem dX4_tipBoards_63 : decode cX4_tipBoards 63 = .ok (.aload_n 0, 1) := by decide +kernel
theorem dX4_tipBoards_64 : decode cX4_tipBoards 64 = .ok (.aload_n 3, 1) := by decide +kernel
theorem dX4_tipBoards_65 : decode cX4_tipBoards 65 = .ok (.invokevirtual 122, 3) := by decide +kernel
theorem dX4_tipBoards_68 : decode cX4_tipBoards 68 = .ok (.istore 4, 2) := by decide +kernel
theorem dX4_tipBoards_70 : decode cX4_tipBoards 70 = .ok (.iinc 5 1, 3) := by decide +kernel
theorem dX4_tipBoards_73 : decode cX4_tipBoards 73 = .ok (.goto (-44), 3) := by decide +kernel
theorem dX4_tipBoards_76 : decode cX4_tipBoards 76 = .ok (.iinc 2 1, 3) := by decide +kernel
theorem dX4_tipBoards_79 : decode cX4_tipBoards 79 = .ok (.goto (-75), 3) := by decide +kernel
theorem dX4_tipBoards_82 : decode cX4_tipBoards 82 = .ok (.aload_n 0, 1) := by decide +kernel
theorem dX4_tipBoards_83 : decode cX4_tipBoards 83 = .ok (.dup, 1) := by decide +kernel
theorem dX4_tipBoards_84 : decode cX4_tipBoards 84 = .ok (.getfield 44, 3) := by decide +kernel
theorem dX4_tipBoards_87 : decode cX4_tipBoards 87 = .ok (.iload_n 1, 1) := by decide +kernel
theorem dX4_tipBoards_88 : decode cX4_tipBoards 88 = .ok (.iadd, 1) := by decide +kernel
theorem dX4_tipBoards_89 : decode cX4_tipBoards 89 = .ok (.putfield 44, 3) := by decide +kernel
theorem dX4_tipBoards_92 : decode cX4_tipBoards 92 = .ok (.iload_n 1, 1) := by decide +kernel
theorem dX4_tipBoards_93 : decode cX4_tipBoards 93 = .ok (.ireturn, 1) := by decide +kernel
theorem dX4_dropFarthest_0 : decode cX4_dropFarthest 0 = .ok (.aload_n 1, 1) := by decide +kernel
theorem dX4_dropFarthest_1 : decode cX4_dropFarthest 1 = .ok (.getfield 155, 3) := by decide +kernel
theorem dX4_dropFarthest_4 : decode cX4_dropFarthest 4 = .ok (.istore_n 3, 1) := by decide +kernel
theorem dX4_dropFarthest_5 : decode cX4_dropFarthest 5 = .ok (.iload_n 3, 1) := by decide +kernel
theorem dX4_dropFarthest_6 : decode cX4_dropFarthest 6 = .ok (.iconst 1, 1) := by decide +kernel
theorem dX4_dropFarthest_7 : decode cX4_dropFarthest 7 = .ok (.if_icmp .lt 61, 3) := by decide +kernel
theorem dX4_dropFarthest_10 : decode cX4_dropFarthest 10 = .ok (.aload_n 0, 1) := by decide +kernel
theorem dX4_dropFarthest_11 : decode cX4_dropFarthest 11 = .ok (.aload_n 1, 1) := by decide +kernel
theorem dX4_dropFarthest_12 : decode cX4_dropFarthest 12 = .ok (.iload_n 2, 1) := by decide +kernel
theorem dX4_dropFarthest_13 : decode cX4_dropFarthest 13 = .ok (.iload_n 3, 1) := by decide +kernel
theorem dX4_dropFarthest_14 : decode cX4_dropFarthest 14 = .ok (.imul, 1) := by decide +kernel
theorem dX4_dropFarthest_15 : decode cX4_dropFarthest 15 = .ok (.invokevirtual 227, 3) := by decide +kernel
theorem dX4_dropFarthest_18 : decode cX4_dropFarthest 18 = .ok (.invokevirtual 230, 3) := by decide +kernel
theorem dX4_dropFarthest_21 : decode cX4_dropFarthest 21 = .ok (.astore 4, 2) := by decide +kernel
theorem dX4_dropFarthest_23 : decode cX4_dropFarthest 23 = .ok (.aload 4, 2) := by decide +kernel
theorem dX4_dropFarthest_25 : decode cX4_dropFarthest 25 = .ok (.ifnull 37, 3) := by decide +kernel
theorem dX4_dropFarthest_28 : decode cX4_dropFarthest 28 = .ok (.aload_n 0, 1) := by decide +kernel
theorem dX4_dropFarthest_29 : decode cX4_dropFarthest 29 = .ok (.aload 4, 2) := by decide +kernel
theorem dX4_dropFarthest_31 : decode cX4_dropFarthest 31 = .ok (.invokevirtual 187, 3) := by decide +kernel
theorem dX4_dropFarthest_34 : decode cX4_dropFarthest 34 = .ok (.aload_n 0, 1) := by decide +kernel
theorem dX4_dropFarthest_35 : decode cX4_dropFarthest 35 = .ok (.aload 4, 2) := by decide +kernel
theorem dX4_dropFarthest_37 : decode cX4_dropFarthest 37 = .ok (.aload_n 0, 1) := by decide +kernel
theorem dX4_dropFarthest_38 : decode cX4_dropFarthest 38 = .ok (.getfield 71, 3) := by decide +kernel
theorem dX4_dropFarthest_41 : decode cX4_dropFarthest 41 = .ok (.invokevirtual 216, 3) := by decide +kernel
theorem dX4_dropFarthest_44 : decode cX4_dropFarthest 44 = .ok (.aload_n 0, 1) := by decide +kernel
theorem dX4_dropFarthest_45 : decode cX4_dropFarthest 45 = .ok (.getfield 26, 3) := by decide +kernel
theorem dX4_dropFarthest_48 : decode cX4_dropFarthest 48 = .ok (.iconst 1, 1) := by decide +kernel
theorem dX4_dropFarthest_49 : decode cX4_dropFarthest 49 = .ok (.aload 4, 2) := by decide +kernel
theorem dX4_dropFarthest_51 : decode cX4_dropFarthest 51 = .ok (.getfield 118, 3) := by decide +kernel
theorem dX4_dropFarthest_54 : decode cX4_dropFarthest 54 = .ok (.aload_n 0, 1) := by decide +kernel
theorem dX4_dropFarthest_55 : decode cX4_dropFarthest 55 = .ok (.getfield 34, 3) := by decide +kernel
theorem dX4_dropFarthest_58 : decode cX4_dropFarthest 58 = .ok (.invokevirtual 220, 3) := by decide +kernel
theorem dX4_dropFarthest_61 : decode cX4_dropFarthest 61 = .ok (.return_, 1) := by decide +kernel
theorem dX4_dropFarthest_62 : decode cX4_dropFarthest 62 = .ok (.iinc 3 (-1), 3) := by decide +kernel
theorem dX4_dropFarthest_65 : decode cX4_dropFarthest 65 = .ok (.goto (-60), 3) := by decide +kernel
theorem dX4_dropFarthest_68 : decode cX4_dropFarthest 68 = .ok (.return_, 1) := by decide +kernel
theorem dX4_coinsInPurses_0 : decode cX4_coinsInPurses 0 = .ok (.iconst 0, 1) := by decide +kernel
theorem dX4_coinsInPurses_1 : decode cX4_coinsInPurses 1 = .ok (.istore_n 1, 1) := by decide +kernel
theorem dX4_coinsInPurses_2 : decode cX4_coinsInPurses 2 = .ok (.iconst 0, 1) := by decide +kernel
theorem dX4_coinsInPurses_3 : decode cX4_coinsInPurses 3 = .ok (.istore_n 2, 1) := by decide +kernel
theorem dX4_coinsInPurses_4 : decode cX4_coinsInPurses 4 = .ok (.iload_n 2, 1) := by decide +kernel
theorem dX4_coinsInPurses_5 : decode cX4_coinsInPurses 5 = .ok (.aload_n 0, 1) := by decide +kernel
theorem dX4_coinsInPurses_6 : decode cX4_coinsInPurses 6 = .ok (.getfield 50, 3) := by decide +kernel
theorem dX4_coinsInPurses_9 : decode cX4_coinsInPurses 9 = .ok (.if_icmp .ge 21, 3) := by decide +kernel
theorem dX4_coinsInPurses_12 : decode cX4_coinsInPurses 12 = .ok (.iload_n 1, 1) := by decide +kernel
theorem dX4_coinsInPurses_13 : decode cX4_coinsInPurses 13 = .ok (.aload_n 0, 1) := by decide +kernel
theorem dX4_coinsInPurses_14 : decode cX4_coinsInPurses 14 = .ok (.getfield 19, 3) := by decide +kernel
theorem dX4_coinsInPurses_17 : decode cX4_coinsInPurses 17 = .ok (.iload_n 2, 1) := by decide +kernel
theorem dX4_coinsInPurses_18 : decode cX4_coinsInPurses 18 = .ok (.aaload, 1) := by decide +kernel
theorem dX4_coinsInPurses_19 : decode cX4_coinsInPurses 19 = .ok (.getfield 102, 3) := by decide +kernel
theorem dX4_coinsInPurses_22 : decode cX4_coinsInPurses 22 = .ok (.iadd, 1) := by decide +kernel
theorem dX4_coinsInPurses_23 : decode cX4_coinsInPurses 23 = .ok (.istore_n 1, 1) := by decide +kernel
theorem dX4_coinsInPurses_24 : decode cX4_coinsInPurses 24 = .ok (.iinc 2 1, 3) := by decide +kernel
theorem dX4_coinsInPurses_27 : decode cX4_coinsInPurses 27 = .ok (.goto (-23), 3) := by decide +kernel
theorem dX4_coinsInPurses_30 : decode cX4_coinsInPurses 30 = .ok (.iload_n 1, 1) := by decide +kernel
theorem dX4_coinsInPurses_31 : decode cX4_coinsInPurses 31 = .ok (.ireturn, 1) := by decide +kernel
theorem dX4_countContradictions_0 : decode cX4_countContradictions 0 = .ok (.aload_n 0, 1) := by decide +kernel
theorem dX4_countContradictions_1 : decode cX4_countContradictions 1 = .ok (.getfield 74, 3) := by decide +kernel
theorem dX4_countContradictions_4 : decode cX4_countContradictions 4 = .ok (.aload_n 0, 1) := by decide +kernel
theorem dX4_countContradictions_5 : decode cX4_countContradictions 5 = .ok (.invokevirtual 237, 3) := by decide +kernel
theorem dX4_countContradictions_8 : decode cX4_countContradictions 8 = .ok (.isub, 1) := by decide +kernel
theorem dX4_countContradictions_9 : decode cX4_countContradictions 9 = .ok (.aload_n 0, 1) := by decide +kernel
theorem dX4_countContradictions_10 : decode cX4_countContradictions 10 = .ok (.getfield 56, 3) := by decide +kernel
theorem dX4_countContradictions_13 : decode cX4_countContradictions 13 = .ok (.isub, 1) := by decide +kernel
theorem dX4_countContradictions_14 : decode cX4_countContradictions 14 = .ok (.invokestatic 130, 3) := by decide +kernel
theorem dX4_countContradictions_17 : decode cX4_countContradictions 17 = .ok (.istore_n 1, 1) := by decide +kernel
theorem dX4_countContradictions_18 : decode cX4_countContradictions 18 = .ok (.iconst 0, 1) := by decide +kernel
theorem dX4_countContradictions_19 : decode cX4_countContradictions 19 = .ok (.istore_n 2, 1) := by decide +kernel
theorem dX4_countContradictions_20 : decode cX4_countContradictions 20 = .ok (.iload_n 2, 1) := by decide +kernel
theorem dX4_countContradictions_21 : decode cX4_countContradictions 21 = .ok (.aload_n 0, 1) := by decide +kernel
theorem dX4_countContradictions_22 : decode cX4_countContradictions 22 = .ok (.getfield 47, 3) := by decide +kernel
theorem dX4_countContradictions_25 : decode cX4_countContradictions 25 = .ok (.if_icmp .ge 41, 3) := by decide +kernel
theorem dX4_countContradictions_28 : decode cX4_countContradictions 28 = .ok (.aload_n 0, 1) := by decide +kernel
theorem dX4_countContradictions_29 : decode cX4_countContradictions 29 = .ok (.getfield 11, 3) := by decide +kernel
theorem dX4_countContradictions_32 : decode cX4_countContradictions 32 = .ok (.iload_n 2, 1) := by decide +kernel
theorem dX4_countContradictions_33 : decode cX4_countContradictions 33 = .ok (.aaload, 1) := by decide +kernel
theorem dX4_countContradictions_34 : decode cX4_countContradictions 34 = .ok (.astore_n 3, 1) := by decide +kernel
theorem dX4_countContradictions_35 : decode cX4_countContradictions 35 = .ok (.iload_n 1, 1) := by decide +kernel
theorem dX4_countContradictions_36 : decode cX4_countContradictions 36 = .ok (.aload_n 0, 1) := by decide +kernel
theorem dX4_countContradictions_37 : decode cX4_countContradictions 37 = .ok (.aload_n 3, 1) := by decide +kernel
theorem dX4_countContradictions_38 : decode cX4_countContradictions 38 = .ok (.invokevirtual 122, 3) := by decide +kernel
theorem dX4_countContradictions_41 : decode cX4_countContradictions 41 = .ok (.aload_n 0, 1) := by decide +kernel
theorem dX4_countContradictions_42 : decode cX4_countContradictions 42 = .ok (.aload_n 3, 1) := by decide +kernel
theorem dX4_countContradictions_43 : decode cX4_countContradictions 43 = .ok (.invokevirtual 240, 3) := by decide +kernel
theorem dX4_countContradictions_46 : decode cX4_countContradictions 46 = .ok (.isub, 1) := by decide +kernel
theorem dX4_countContradictions_47 : decode cX4_countContradictions 47 = .ok (.invokestatic 130, 3) := by decide +kernel
theorem dX4_countContradictions_50 : decode cX4_countContradictions 50 = .ok (.iadd, 1) := by decide +kernel
theorem dX4_countContradictions_51 : decode cX4_countContradictions 51 = .ok (.istore_n 1, 1) := by decide +kernel
theorem dX4_countContradictions_52 : decode cX4_countContradictions 52 = .ok (.iload_n 1, 1) := by decide +kernel
theorem dX4_countContradictions_53 : decode cX4_countContradictions 53 = .ok (.aload_n 0, 1) := by decide +kernel
theorem dX4_countContradictions_54 : decode cX4_countContradictions 54 = .ok (.aload_n 3, 1) := by decide +kernel
theorem dX4_countContradictions_55 : decode cX4_countContradictions 55 = .ok (.invokevirtual 243, 3) := by decide +kernel
theorem dX4_countContradictions_58 : decode cX4_countContradictions 58 = .ok (.iadd, 1) := by decide +kernel
theorem dX4_countContradictions_59 : decode cX4_countContradictions 59 = .ok (.istore_n 1, 1) := by decide +kernel
theorem dX4_countContradictions_60 : decode cX4_countContradictions 60 = .ok (.iinc 2 1, 3) := by decide +kernel
theorem dX4_countContradictions_63 : decode cX4_countContradictions 63 = .ok (.goto (-43), 3) := by decide +kernel
theorem dX4_countContradictions_66 : decode cX4_countContradictions 66 = .ok (.iload_n 1, 1) := by decide +kernel
theorem dX4_countContradictions_67 : decode cX4_countContradictions 67 = .ok (.ireturn, 1) := by decide +kernel
theorem dX4_torqueByDistances_0 : decode cX4_torqueByDistances 0 = .ok (.iconst 0, 1) := by decide +kernel
theorem dX4_torqueByDistances_1 : decode cX4_torqueByDistances 1 = .ok (.istore_n 2, 1) := by decide +kernel
theorem dX4_torqueByDistances_2 : decode cX4_torqueByDistances 2 = .ok (.iconst 1, 1) := by decide +kernel
theorem dX4_torqueByDistances_3 : decode cX4_torqueByDistances 3 = .ok (.istore_n 3, 1) := by decide +kernel
theorem dX4_torqueByDistances_4 : decode cX4_torqueByDistances 4 = .ok (.iload_n 3, 1) := by decide +kernel
theorem dX4_torqueByDistances_5 : decode cX4_torqueByDistances 5 = .ok (.aload_n 1, 1) := by decide +kernel
theorem dX4_torqueByDistances_6 : decode cX4_torqueByDistances 6 = .ok (.getfield 155, 3) := by decide +kernel
theorem dX4_torqueByDistances_9 : decode cX4_torqueByDistances 9 = .ok (.if_icmp .gt 46, 3) := by decide +kernel
theorem dX4_torqueByDistances_12 : decode cX4_torqueByDistances 12 = .ok (.iload_n 3, 1) := by decide +kernel
theorem dX4_torqueByDistances_13 : decode cX4_torqueByDistances 13 = .ok (.istore 4, 2) := by decide +kernel
theorem dX4_torqueByDistances_15 : decode cX4_torqueByDistances 15 = .ok (.iload 4, 2) := by decide +kernel
theorem dX4_torqueByDistances_17 : decode cX4_torqueByDistances 17 = .ok (.aload_n 1, 1) := by decide +kernel
theorem dX4_torqueByDistances_18 : decode cX4_torqueByDistances 18 = .ok (.getfield 155, 3) := by decide +kernel
theorem dX4_torqueByDistances_21 : decode cX4_torqueByDistances 21 = .ok (.if_icmp .gt 28, 3) := by decide +kernel
theorem dX4_torqueByDistances_24 : decode cX4_torqueByDistances 24 = .ok (.iload_n 2, 1) := by decide +kernel
theorem dX4_torqueByDistances_25 : decode cX4_torqueByDistances 25 = .ok (.aload_n 0, 1) := by decide +kernel
theorem dX4_torqueByDistances_26 : decode cX4_torqueByDistances 26 = .ok (.aload_n 1, 1) := by decide +kernel
theorem dX4_torqueByDistances_27 : decode cX4_torqueByDistances 27 = .ok (.iload 4, 2) := by decide +kernel
theorem dX4_torqueByDistances_29 : decode cX4_torqueByDistances 29 = .ok (.invokevirtual 246, 3) := by decide +kernel
theorem dX4_torqueByDistances_32 : decode cX4_torqueByDistances 32 = .ok (.aload_n 0, 1) := by decide +kernel
theorem dX4_torqueByDistances_33 : decode cX4_torqueByDistances 33 = .ok (.aload_n 1, 1) := by decide +kernel
theorem dX4_torqueByDistances_34 : decode cX4_torqueByDistances 34 = .ok (.iload 4, 2) := by decide +kernel
theorem dX4_torqueByDistances_36 : decode cX4_torqueByDistances 36 = .ok (.ineg, 1) := by decide +kernel
theorem dX4_torqueByDistances_37 : decode cX4_torqueByDistances 37 = .ok (.invokevirtual 246, 3) := by decide +kernel
theorem dX4_torqueByDistances_40 : decode cX4_torqueByDistances 40 = .ok (.isub, 1) := by decide +kernel
theorem dX4_torqueByDistances_41 : decode cX4_torqueByDistances 41 = .ok (.iadd, 1) := by decide +kernel
theorem dX4_torqueByDistances_42 : decode cX4_torqueByDistances 42 = .ok (.istore_n 2, 1) := by decide +kernel
theorem dX4_torqueByDistances_43 : decode cX4_torqueByDistances 43 = .ok (.iinc 4 1, 3) := by decide +kernel
theorem dX4_torqueByDistances_46 : decode cX4_torqueByDistances 46 = .ok (.goto (-31), 3) := by decide +kernel
theorem dX4_torqueByDistances_49 : decode cX4_torqueByDistances 49 = .ok (.iinc 3 1, 3) := by decide +kernel
theorem dX4_torqueByDistances_52 : decode cX4_torqueByDistances 52 = .ok (.goto (-48), 3) := by decide +kernel
theorem dX4_torqueByDistances_55 : decode cX4_torqueByDistances 55 = .ok (.iload_n 2, 1) := by decide +kernel
theorem dX4_torqueByDistances_56 : decode cX4_torqueByDistances 56 = .ok (.ireturn, 1) := by decide +kernel
theorem dX4_weightOn_0 : decode cX4_weightOn 0 = .ok (.aload_n 0, 1) := by decide +kernel
theorem dX4_weightOn_1 : decode cX4_weightOn 1 = .ok (.aload_n 1, 1) := by decide +kernel
theorem dX4_weightOn_2 : decode cX4_weightOn 2 = .ok (.iload_n 2, 1) := by decide +kernel
theorem dX4_weightOn_3 : decode cX4_weightOn 3 = .ok (.invokevirtual 227, 3) := by decide +kernel
theorem dX4_weightOn_6 : decode cX4_weightOn 6 = .ok (.invokevirtual 230, 3) := by decide +kernel
theorem dX4_weightOn_9 : decode cX4_weightOn 9 = .ok (.astore_n 3, 1) := by decide +kernel
theorem dX4_weightOn_10 : decode cX4_weightOn 10 = .ok (.aload_n 3, 1) := by decide +kernel
theorem dX4_weightOn_11 : decode cX4_weightOn 11 = .ok (.ifnonnull 7, 3) := by decide +kernel
theorem dX4_weightOn_14 : decode cX4_weightOn 14 = .ok (.iconst 0, 1) := by decide +kernel
theorem dX4_weightOn_15 : decode cX4_weightOn 15 = .ok (.goto 7, 3) := by decide +kernel
theorem dX4_weightOn_18 : decode cX4_weightOn 18 = .ok (.aload_n 3, 1) := by decide +kernel
theorem dX4_weightOn_19 : decode cX4_weightOn 19 = .ok (.getfield 99, 3) := by decide +kernel
theorem dX4_weightOn_22 : decode cX4_weightOn 22 = .ok (.ireturn, 1) := by decide +kernel
theorem dX4_wrongSeats_0 : decode cX4_wrongSeats 0 = .ok (.iconst 0, 1) := by decide +kernel
theorem dX4_wrongSeats_1 : decode cX4_wrongSeats 1 = .ok (.istore_n 2, 1) := by decide +kernel
theorem dX4_wrongSeats_2 : decode cX4_wrongSeats 2 = .ok (.aload_n 1, 1) := by decide +kernel
theorem dX4_wrongSeats_3 : decode cX4_wrongSeats 3 = .ok (.getfield 155, 3) := by decide +kernel
theorem dX4_wrongSeats_6 : decode cX4_wrongSeats 6 = .ok (.ineg, 1) := by decide +kernel
theorem dX4_wrongSeats_7 : decode cX4_wrongSeats 7 = .ok (.istore_n 3, 1) := by decide +kernel
theorem dX4_wrongSeats_8 : decode cX4_wrongSeats 8 = .ok (.iload_n 3, 1) := by decide +kernel
theorem dX4_wrongSeats_9 : decode cX4_wrongSeats 9 = .ok (.aload_n 1, 1) := by decide +kernel
theorem dX4_wrongSeats_10 : decode cX4_wrongSeats 10 = .ok (.getfield 155, 3) := by decide +kernel
theorem dX4_wrongSeats_13 : decode cX4_wrongSeats 13 = .ok (.if_icmp .gt 49, 3) := by decide +kernel
theorem dX4_wrongSeats_16 : decode cX4_wrongSeats 16 = .ok (.aload_n 0, 1) := by decide +kernel
theorem dX4_wrongSeats_17 : decode cX4_wrongSeats 17 = .ok (.aload_n 1, 1) := by decide +kernel
theorem dX4_wrongSeats_18 : decode cX4_wrongSeats 18 = .ok (.iload_n 3, 1) := by decide +kernel
theorem dX4_wrongSeats_19 : decode cX4_wrongSeats 19 = .ok (.invokevirtual 227, 3) := by decide +kernel
theorem dX4_wrongSeats_22 : decode cX4_wrongSeats 22 = .ok (.invokevirtual 230, 3) := by decide +kernel
theorem dX4_wrongSeats_25 : decode cX4_wrongSeats 25 = .ok (.astore 4, 2) := by decide +kernel
theorem dX4_wrongSeats_27 : decode cX4_wrongSeats 27 = .ok (.aload 4, 2) := by decide +kernel
theorem dX4_wrongSeats_29 : decode cX4_wrongSeats 29 = .ok (.ifnull 27, 3) := by decide +kernel
theorem dX4_wrongSeats_32 : decode cX4_wrongSeats 32 = .ok (.aload 4, 2) := by decide +kernel
theorem dX4_wrongSeats_34 : decode cX4_wrongSeats 34 = .ok (.getfield 112, 3) := by decide +kernel
theorem dX4_wrongSeats_37 : decode cX4_wrongSeats 37 = .ok (.aload_n 1, 1) := by decide +kernel
theorem dX4_wrongSeats_38 : decode cX4_wrongSeats 38 = .ok (.getfield 121, 3) := by decide +kernel
theorem dX4_wrongSeats_41 : decode cX4_wrongSeats 41 = .ok (.if_icmp .ne 12, 3) := by decide +kernel
theorem dX4_wrongSeats_44 : decode cX4_wrongSeats 44 = .ok (.aload 4, 2) := by decide +kernel
theorem dX4_wrongSeats_46 : decode cX4_wrongSeats 46 = .ok (.getfield 115, 3) := by decide +kernel
theorem dX4_wrongSeats_49 : decode cX4_wrongSeats 49 = .ok (.iload_n 3, 1) := by decide +kernel
theorem dX4_wrongSeats_50 : decode cX4_wrongSeats 50 = .ok (.if_icmp .eq 6, 3) := by decide +kernel
theorem dX4_wrongSeats_53 : decode cX4_wrongSeats 53 = .ok (.iinc 2 1, 3) := by decide +kernel
theorem dX4_wrongSeats_56 : decode cX4_wrongSeats 56 = .ok (.iinc 3 1, 3) := by decide +kernel
theorem dX4_wrongSeats_59 : decode cX4_wrongSeats 59 = .ok (.goto (-51), 3) := by decide +kernel
theorem dX4_wrongSeats_62 : decode cX4_wrongSeats 62 = .ok (.iload_n 2, 1) := by decide +kernel
theorem dX4_wrongSeats_63 : decode cX4_wrongSeats 63 = .ok (.ireturn, 1) := by decide +kernel
theorem dX6_init_0 : decode cX6_init 0 = .ok (.aload_n 0, 1) := by decide +kernel
theorem dX6_init_1 : decode cX6_init 1 = .ok (.invokespecial 3, 3) := by decide +kernel
theorem dX6_init_4 : decode cX6_init 4 = .ok (.aload_n 0, 1) := by decide +kernel
theorem dX6_init_5 : decode cX6_init 5 = .ok (.bipush 30, 2) := by decide +kernel
theorem dX6_init_7 : decode cX6_init 7 = .ok (.anewarray 9, 3) := by decide +kernel
theorem dX6_init_10 : decode cX6_init 10 = .ok (.putfield 11, 3) := by decide +kernel
theorem dX6_init_13 : decode cX6_init 13 = .ok (.aload_n 0, 1) := by decide +kernel
theorem dX6_init_14 : decode cX6_init 14 = .ok (.iconst 2, 1) := by decide +kernel
theorem dX6_init_15 : decode cX6_init 15 = .ok (.newarray .int, 2) := by decide +kernel
theorem dX6_init_17 : decode cX6_init 17 = .ok (.putfield 17, 3) := by decide +kernel
theorem dX6_init_20 : decode cX6_init 20 = .ok (.aload_n 0, 1) := by decide +kernel
