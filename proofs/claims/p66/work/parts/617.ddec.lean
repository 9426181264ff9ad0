theorem dLB_init_0 : decode cLB_init 0 = .ok (.aload_n 0, 1) := by decide +kernel
theorem dLB_init_1 : decode cLB_init 1 = .ok (.invokespecial 1, 3) := by decide +kernel
theorem dLB_init_4 : decode cLB_init 4 = .ok (.aload_n 0, 1) := by decide +kernel
theorem dLB_init_5 : decode cLB_init 5 = .ok (.new 7, 3) := by decide +kernel
theorem dLB_init_8 : decode cLB_init 8 = .ok (.dup, 1) := by decide +kernel
theorem dLB_init_9 : decode cLB_init 9 = .ok (.invokespecial 9, 3) := by decide +kernel
theorem dLB_init_12 : decode cLB_init 12 = .ok (.putfield 10, 3) := by decide +kernel
theorem dLB_init_15 : decode cLB_init 15 = .ok (.aload_n 0, 1) := by decide +kernel
theorem dLB_init_16 : decode cLB_init 16 = .ok (.iload_n 1, 1) := by decide +kernel
theorem dLB_init_17 : decode cLB_init 17 = .ok (.putfield 16, 3) := by decide +kernel
theorem dLB_init_20 : decode cLB_init 20 = .ok (.aload_n 0, 1) := by decide +kernel
theorem dLB_init_21 : decode cLB_init 21 = .ok (.iload_n 2, 1) := by decide +kernel
theorem dLB_init_22 : decode cLB_init 22 = .ok (.putfield 20, 3) := by decide +kernel
theorem dLB_init_25 : decode cLB_init 25 = .ok (.aload_n 0, 1) := by decide +kernel
theorem dLB_init_26 : decode cLB_init 26 = .ok (.iload_n 3, 1) := by decide +kernel
theorem dLB_init_27 : decode cLB_init 27 = .ok (.putfield 23, 3) := by decide +kernel
theorem dLB_init_30 : decode cLB_init 30 = .ok (.aload_n 0, 1) := by decide +kernel
theorem dLB_init_31 : decode cLB_init 31 = .ok (.iload 4, 2) := by decide +kernel
theorem dLB_init_33 : decode cLB_init 33 = .ok (.putfield 26, 3) := by decide +kernel
theorem dLB_init_36 : decode cLB_init 36 = .ok (.return_, 1) := by decide +kernel
theorem dLB_torque_0 : decode cLB_torque 0 = .ok (.iconst 0, 1) := by decide +kernel
theorem dLB_torque_1 : decode cLB_torque 1 = .ok (.istore_n 1, 1) := by decide +kernel
theorem dLB_torque_2 : decode cLB_torque 2 = .ok (.aload_n 0, 1) := by decide +kernel
theorem dLB_torque_3 : decode cLB_torque 3 = .ok (.getfield 10, 3) := by decide +kernel
theorem dLB_torque_6 : decode cLB_torque 6 = .ok (.invokevirtual 29, 3) := by decide +kernel
theorem dLB_torque_9 : decode cLB_torque 9 = .ok (.invokeinterface 33 1, 5) := by decide +kernel
theorem dLB_torque_14 : decode cLB_torque 14 = .ok (.astore_n 2, 1) := by decide +kernel
theorem dLB_torque_15 : decode cLB_torque 15 = .ok (.aload_n 2, 1) := by decide +kernel
theorem dLB_torque_16 : decode cLB_torque 16 = .ok (.invokeinterface 39 1, 5) := by decide +kernel
theorem dLB_torque_21 : decode cLB_torque 21 = .ok (.ifCond .eq 28, 3) := by decide +kernel
theorem dLB_torque_24 : decode cLB_torque 24 = .ok (.aload_n 2, 1) := by decide +kernel
theorem dLB_torque_25 : decode cLB_torque 25 = .ok (.invokeinterface 45 1, 5) := by decide +kernel
theorem dLB_torque_30 : decode cLB_torque 30 = .ok (.checkcast 49, 3) := by decide +kernel
theorem dLB_torque_33 : decode cLB_torque 33 = .ok (.astore_n 3, 1) := by decide +kernel
theorem dLB_torque_34 : decode cLB_torque 34 = .ok (.iload_n 1, 1) := by decide +kernel
theorem dLB_torque_35 : decode cLB_torque 35 = .ok (.aload_n 3, 1) := by decide +kernel
theorem dLB_torque_36 : decode cLB_torque 36 = .ok (.getfield 51, 3) := by decide +kernel
theorem dLB_torque_39 : decode cLB_torque 39 = .ok (.aload_n 3, 1) := by decide +kernel
theorem dLB_torque_40 : decode cLB_torque 40 = .ok (.getfield 54, 3) := by decide +kernel
theorem dLB_torque_43 : decode cLB_torque 43 = .ok (.imul, 1) := by decide +kernel
theorem dLB_torque_44 : decode cLB_torque 44 = .ok (.iadd, 1) := by decide +kernel
theorem dLB_torque_45 : decode cLB_torque 45 = .ok (.istore_n 1, 1) := by decide +kernel
theorem dLB_torque_46 : decode cLB_torque 46 = .ok (.goto (-31), 3) := by decide +kernel
theorem dLB_torque_49 : decode cLB_torque 49 = .ok (.iload_n 1, 1) := by decide +kernel
theorem dLB_torque_50 : decode cLB_torque 50 = .ok (.ireturn, 1) := by decide +kernel
theorem dLB_tilt_0 : decode cLB_tilt 0 = .ok (.aload_n 0, 1) := by decide +kernel
theorem dLB_tilt_1 : decode cLB_tilt 1 = .ok (.invokevirtual 57, 3) := by decide +kernel
theorem dLB_tilt_4 : decode cLB_tilt 4 = .ok (.aload_n 0, 1) := by decide +kernel
theorem dLB_tilt_5 : decode cLB_tilt 5 = .ok (.getfield 23, 3) := by decide +kernel
theorem dLB_tilt_8 : decode cLB_tilt 8 = .ok (.idiv, 1) := by decide +kernel
theorem dLB_tilt_9 : decode cLB_tilt 9 = .ok (.istore_n 1, 1) := by decide +kernel
theorem dLB_tilt_10 : decode cLB_tilt 10 = .ok (.iload_n 1, 1) := by decide +kernel
theorem dLB_tilt_11 : decode cLB_tilt 11 = .ok (.bipush 9, 2) := by decide +kernel
theorem dLB_tilt_13 : decode cLB_tilt 13 = .ok (.if_icmp .le 8, 3) := by decide +kernel
theorem dLB_tilt_16 : decode cLB_tilt 16 = .ok (.bipush 9, 2) := by decide +kernel
theorem dLB_tilt_18 : decode cLB_tilt 18 = .ok (.goto 15, 3) := by decide +kernel
theorem dLB_tilt_21 : decode cLB_tilt 21 = .ok (.iload_n 1, 1) := by decide +kernel
theorem dLB_tilt_22 : decode cLB_tilt 22 = .ok (.bipush (-9), 2) := by decide +kernel
theorem dLB_tilt_24 : decode cLB_tilt 24 = .ok (.if_icmp .ge 8, 3) := by decide +kernel
theorem dLB_tilt_27 : decode cLB_tilt 27 = .ok (.bipush (-9), 2) := by decide +kernel
theorem dLB_tilt_29 : decode cLB_tilt 29 = .ok (.goto 4, 3) := by decide +kernel
theorem dLB_tilt_32 : decode cLB_tilt 32 = .ok (.iload_n 1, 1) := by decide +kernel
theorem dLB_tilt_33 : decode cLB_tilt 33 = .ok (.ireturn, 1) := by decide +kernel
theorem dLB_height_0 : decode cLB_height 0 = .ok (.iload_n 1, 1) := by decide +kernel
theorem dLB_height_1 : decode cLB_height 1 = .ok (.aload_n 0, 1) := by decide +kernel
theorem dLB_height_2 : decode cLB_height 2 = .ok (.invokevirtual 61, 3) := by decide +kernel
theorem dLB_height_5 : decode cLB_height 5 = .ok (.imul, 1) := by decide +kernel
theorem dLB_height_6 : decode cLB_height 6 = .ok (.ineg, 1) := by decide +kernel
theorem dLB_height_7 : decode cLB_height 7 = .ok (.ireturn, 1) := by decide +kernel
theorem dLT_init_0 : decode cLT_init 0 = .ok (.aload_n 0, 1) := by decide +kernel
theorem dLT_init_1 : decode cLT_init 1 = .ok (.invokespecial 1, 3) := by decide +kernel
theorem dLT_init_4 : decode cLT_init 4 = .ok (.aload_n 0, 1) := by decide +kernel
theorem dLT_init_5 : decode cLT_init 5 = .ok (.iconst 1, 1) := by decide +kernel
theorem dLT_init_6 : decode cLT_init 6 = .ok (.putfield 7, 3) := by decide +kernel
theorem dLT_init_9 : decode cLT_init 9 = .ok (.aload_n 0, 1) := by decide +kernel
theorem dLT_init_10 : decode cLT_init 10 = .ok (.iload_n 1, 1) := by decide +kernel
theorem dLT_init_11 : decode cLT_init 11 = .ok (.putfield 13, 3) := by decide +kernel
theorem dLT_init_14 : decode cLT_init 14 = .ok (.aload_n 0, 1) := by decide +kernel
theorem dLT_init_15 : decode cLT_init 15 = .ok (.iload_n 2, 1) := by decide +kernel
theorem dLT_init_16 : decode cLT_init 16 = .ok (.putfield 17, 3) := by decide +kernel
theorem dLT_init_19 : decode cLT_init 19 = .ok (.aload_n 0, 1) := by decide +kernel
theorem dLT_init_20 : decode cLT_init 20 = .ok (.iload_n 3, 1) := by decide +kernel
theorem dLT_init_21 : decode cLT_init 21 = .ok (.putfield 20, 3) := by decide +kernel
theorem dLT_init_24 : decode cLT_init 24 = .ok (.aload_n 0, 1) := by decide +kernel
theorem dLT_init_25 : decode cLT_init 25 = .ok (.iload 4, 2) := by decide +kernel
theorem dLT_init_27 : decode cLT_init 27 = .ok (.putfield 23, 3) := by decide +kernel
theorem dLT_init_30 : decode cLT_init 30 = .ok (.return_, 1) := by decide +kernel
theorem dLT_rises_0 : decode cLT_rises 0 = .ok (.aload_n 0, 1) := by decide +kernel
theorem dLT_rises_1 : decode cLT_rises 1 = .ok (.getfield 26, 3) := by decide +kernel
theorem dLT_rises_4 : decode cLT_rises 4 = .ok (.ifnonnull 4, 3) := by decide +kernel
theorem dLT_rises_7 : decode cLT_rises 7 = .ok (.return_, 1) := by decide +kernel
theorem dLT_rises_8 : decode cLT_rises 8 = .ok (.aload_n 0, 1) := by decide +kernel
theorem dLT_rises_9 : decode cLT_rises 9 = .ok (.getfield 26, 3) := by decide +kernel
theorem dLT_rises_12 : decode cLT_rises 12 = .ok (.getfield 30, 3) := by decide +kernel
theorem dLT_rises_15 : decode cLT_rises 15 = .ok (.aload_n 0, 1) := by decide +kernel
theorem dLT_rises_16 : decode cLT_rises 16 = .ok (.getfield 36, 3) := by decide +kernel
theorem dLT_rises_19 : decode cLT_rises 19 = .ok (.invokestatic 39, 3) := by decide +kernel
theorem dLT_rises_22 : decode cLT_rises 22 = .ok (.invokevirtual 45, 3) := by decide +kernel
theorem dLT_rises_25 : decode cLT_rises 25 = .ok (.checkcast 8, 3) := by decide +kernel
theorem dLT_rises_28 : decode cLT_rises 28 = .ok (.astore_n 1, 1) := by decide +kernel
theorem dLT_rises_29 : decode cLT_rises 29 = .ok (.aload_n 0, 1) := by decide +kernel
theorem dLT_rises_30 : decode cLT_rises 30 = .ok (.aconst_null, 1) := by decide +kernel
theorem dLT_rises_31 : decode cLT_rises 31 = .ok (.putfield 26, 3) := by decide +kernel
theorem dLT_rises_34 : decode cLT_rises 34 = .ok (.aload_n 0, 1) := by decide +kernel
theorem dLT_rises_35 : decode cLT_rises 35 = .ok (.iconst 0, 1) := by decide +kernel
theorem dLT_rises_36 : decode cLT_rises 36 = .ok (.putfield 36, 3) := by decide +kernel
theorem dLT_rises_39 : decode cLT_rises 39 = .ok (.return_, 1) := by decide +kernel
theorem dLT_sits_0 : decode cLT_sits 0 = .ok (.aload_n 1, 1) := by decide +kernel
theorem dLT_sits_1 : decode cLT_sits 1 = .ok (.getfield 30, 3) := by decide +kernel
theorem dLT_sits_4 : decode cLT_sits 4 = .ok (.iload_n 2, 1) := by decide +kernel
theorem dLT_sits_5 : decode cLT_sits 5 = .ok (.invokestatic 39, 3) := by decide +kernel
theorem dLT_sits_8 : decode cLT_sits 8 = .ok (.aload_n 0, 1) := by decide +kernel
theorem dLT_sits_9 : decode cLT_sits 9 = .ok (.invokevirtual 51, 3) := by decide +kernel
theorem dLT_sits_12 : decode cLT_sits 12 = .ok (.checkcast 8, 3) := by decide +kernel
theorem dLT_sits_15 : decode cLT_sits 15 = .ok (.astore_n 3, 1) := by decide +kernel
theorem dLT_sits_16 : decode cLT_sits 16 = .ok (.aload_n 0, 1) := by decide +kernel
theorem dLT_sits_17 : decode cLT_sits 17 = .ok (.aload_n 1, 1) := by decide +kernel
theorem dLT_sits_18 : decode cLT_sits 18 = .ok (.putfield 26, 3) := by decide +kernel
theorem dLT_sits_21 : decode cLT_sits 21 = .ok (.aload_n 0, 1) := by decide +kernel
theorem dLT_sits_22 : decode cLT_sits 22 = .ok (.iload_n 2, 1) := by decide +kernel
theorem dLT_sits_23 : decode cLT_sits 23 = .ok (.putfield 36, 3) := by decide +kernel
theorem dLT_sits_26 : decode cLT_sits 26 = .ok (.return_, 1) := by decide +kernel
theorem dAS_init_a7421_0 : decode cAS_init_a7421 0 = .ok (.aload_n 0, 1) := by decide +kernel
theorem dAS_init_a7421_1 : decode cAS_init_a7421 1 = .ok (.invokespecial 3, 3) := by decide +kernel
theorem dAS_init_a7421_4 : decode cAS_init_a7421 4 = .ok (.aload_n 1, 1) := by decide +kernel
theorem dAS_init_a7421_5 : decode cAS_init_a7421 5 = .ok (.invokevirtual 32, 3) := by decide +kernel
theorem dAS_init_a7421_8 : decode cAS_init_a7421 8 = .ok (.istore_n 2, 1) := by decide +kernel
theorem dAS_init_a7421_9 : decode cAS_init_a7421 9 = .ok (.iload_n 2, 1) := by decide +kernel
theorem dAS_init_a7421_10 : decode cAS_init_a7421 10 = .ok (.ldc 38, 2) := by decide +kernel
theorem dAS_init_a7421_12 : decode cAS_init_a7421 12 = .ok (.if_icmp .ge 10, 3) := by decide +kernel
theorem dAS_init_a7421_15 : decode cAS_init_a7421 15 = .ok (.iload_n 2, 1) := by decide +kernel
theorem dAS_init_a7421_16 : decode cAS_init_a7421 16 = .ok (.bipush 16, 2) := by decide +kernel
theorem dAS_init_a7421_18 : decode cAS_init_a7421 18 = .ok (.iadd, 1) := by decide +kernel
theorem dAS_init_a7421_19 : decode cAS_init_a7421 19 = .ok (.goto 5, 3) := by decide +kernel
theorem dAS_init_a7421_22 : decode cAS_init_a7421 22 = .ok (.ldc 39, 2) := by decide +kernel
theorem dAS_init_a7421_24 : decode cAS_init_a7421 24 = .ok (.istore_n 3, 1) := by decide +kernel
theorem dAS_init_a7421_25 : decode cAS_init_a7421 25 = .ok (.aload_n 1, 1) := by decide +kernel
theorem dAS_init_a7421_26 : decode cAS_init_a7421 26 = .ok (.invokevirtual 40, 3) := by decide +kernel
theorem dAS_init_a7421_29 : decode cAS_init_a7421 29 = .ok (.istore 4, 2) := by decide +kernel
theorem dAS_init_a7421_31 : decode cAS_init_a7421 31 = .ok (.aload_n 0, 1) := by decide +kernel
theorem dAS_init_a7421_32 : decode cAS_init_a7421 32 = .ok (.iload 4, 2) := by decide +kernel
theorem dAS_init_a7421_34 : decode cAS_init_a7421 34 = .ok (.putfield 22, 3) := by decide +kernel
theorem dAS_init_a7421_37 : decode cAS_init_a7421 37 = .ok (.aload_n 0, 1) := by decide +kernel
theorem dAS_init_a7421_38 : decode cAS_init_a7421 38 = .ok (.iload 4, 2) := by decide +kernel
theorem dAS_init_a7421_40 : decode cAS_init_a7421 40 = .ok (.ifCond .ne 9, 3) := by decide +kernel
theorem dAS_init_a7421_43 : decode cAS_init_a7421 43 = .ok (.iload_n 3, 1) := by decide +kernel
theorem dAS_init_a7421_44 : decode cAS_init_a7421 44 = .ok (.newarray .byte, 2) := by decide +kernel
theorem dAS_init_a7421_46 : decode cAS_init_a7421 46 = .ok (.goto 7, 3) := by decide +kernel
theorem dAS_init_a7421_49 : decode cAS_init_a7421 49 = .ok (.iload_n 3, 1) := by decide +kernel
theorem dAS_init_a7421_50 : decode cAS_init_a7421 50 = .ok (.invokestatic 26, 3) := by decide +kernel
theorem dAS_init_a7421_53 : decode cAS_init_a7421 53 = .ok (.putfield 15, 3) := by decide +kernel
theorem dAS_init_a7421_56 : decode cAS_init_a7421 56 = .ok (.aload_n 0, 1) := by decide +kernel
theorem dAS_init_a7421_57 : decode cAS_init_a7421 57 = .ok (.aload_n 1, 1) := by decide +kernel
theorem dAS_init_a7421_58 : decode cAS_init_a7421 58 = .ok (.invokevirtual 43, 3) := by decide +kernel
theorem dAS_init_a7421_61 : decode cAS_init_a7421 61 = .ok (.pop, 1) := by decide +kernel
theorem dAS_init_a7421_62 : decode cAS_init_a7421 62 = .ok (.return_, 1) := by decide +kernel
theorem dAS_length_8abf5_0 : decode cAS_length_8abf5 0 = .ok (.aload_n 0, 1) := by decide +kernel
theorem dAS_length_8abf5_1 : decode cAS_length_8abf5 1 = .ok (.getfield 79, 3) := by decide +kernel
theorem dAS_length_8abf5_4 : decode cAS_length_8abf5 4 = .ok (.ireturn, 1) := by decide +kernel
theorem dAS_ensureCapacityInternal_d00df_0 : decode cAS_ensureCapacityInternal_d00df 0 = .ok (.aload_n 0, 1) := by decide +kernel
theorem dAS_ensureCapacityInternal_d00df_1 : decode cAS_ensureCapacityInternal_d00df 1 = .ok (.getfield 15, 3) := by decide +kernel
theorem dAS_ensureCapacityInternal_d00df_4 : decode cAS_ensureCapacityInternal_d00df 4 = .ok (.arraylength, 1) := by decide +kernel
theorem dAS_ensureCapacityInternal_d00df_5 : decode cAS_ensureCapacityInternal_d00df 5 = .ok (.aload_n 0, 1) := by decide +kernel
theorem dAS_ensureCapacityInternal_d00df_6 : decode cAS_ensureCapacityInternal_d00df 6 = .ok (.getfield 22, 3) := by decide +kernel
theorem dAS_ensureCapacityInternal_d00df_9 : decode cAS_ensureCapacityInternal_d00df 9 = .ok (.ishr, 1) := by decide +kernel
theorem dAS_ensureCapacityInternal_d00df_10 : decode cAS_ensureCapacityInternal_d00df 10 = .ok (.istore_n 2, 1) := by decide +kernel
theorem dAS_ensureCapacityInternal_d00df_11 : decode cAS_ensureCapacityInternal_d00df 11 = .ok (.iload_n 1, 1) := by decide +kernel
theorem dAS_ensureCapacityInternal_d00df_12 : decode cAS_ensureCapacityInternal_d00df 12 = .ok (.iload_n 2, 1) := by decide +kernel
theorem dAS_ensureCapacityInternal_d00df_13 : decode cAS_ensureCapacityInternal_d00df 13 = .ok (.isub, 1) := by decide +kernel
theorem dAS_ensureCapacityInternal_d00df_14 : decode cAS_ensureCapacityInternal_d00df 14 = .ok (.ifCond .le 24, 3) := by decide +kernel
theorem dAS_ensureCapacityInternal_d00df_17 : decode cAS_ensureCapacityInternal_d00df 17 = .ok (.aload_n 0, 1) := by decide +kernel
theorem dAS_ensureCapacityInternal_d00df_18 : decode cAS_ensureCapacityInternal_d00df 18 = .ok (.aload_n 0, 1) := by decide +kernel
theorem dAS_ensureCapacityInternal_d00df_19 : decode cAS_ensureCapacityInternal_d00df 19 = .ok (.getfield 15, 3) := by decide +kernel
theorem dAS_ensureCapacityInternal_d00df_22 : decode cAS_ensureCapacityInternal_d00df 22 = .ok (.aload_n 0, 1) := by decide +kernel
theorem dAS_ensureCapacityInternal_d00df_23 : decode cAS_ensureCapacityInternal_d00df 23 = .ok (.iload_n 1, 1) := by decide +kernel
theorem dAS_ensureCapacityInternal_d00df_24 : decode cAS_ensureCapacityInternal_d00df 24 = .ok (.invokevirtual 104, 3) := by decide +kernel
theorem dAS_ensureCapacityInternal_d00df_27 : decode cAS_ensureCapacityInternal_d00df 27 = .ok (.aload_n 0, 1) := by decide +kernel
theorem dAS_ensureCapacityInternal_d00df_28 : decode cAS_ensureCapacityInternal_d00df 28 = .ok (.getfield 22, 3) := by decide +kernel
theorem dAS_ensureCapacityInternal_d00df_31 : decode cAS_ensureCapacityInternal_d00df 31 = .ok (.ishl, 1) := by decide +kernel
theorem dAS_ensureCapacityInternal_d00df_32 : decode cAS_ensureCapacityInternal_d00df 32 = .ok (.invokestatic 108, 3) := by decide +kernel
theorem dAS_ensureCapacityInternal_d00df_35 : decode cAS_ensureCapacityInternal_d00df 35 = .ok (.putfield 15, 3) := by decide +kernel
theorem dAS_ensureCapacityInternal_d00df_38 : decode cAS_ensureCapacityInternal_d00df 38 = .ok (.return_, 1) := by decide +kernel
theorem dAS_newCapacity_0f7a4_0 : decode cAS_newCapacity_0f7a4 0 = .ok (.aload_n 0, 1) := by decide +kernel
theorem dAS_newCapacity_0f7a4_1 : decode cAS_newCapacity_0f7a4 1 = .ok (.getfield 15, 3) := by decide +kernel
theorem dAS_newCapacity_0f7a4_4 : decode cAS_newCapacity_0f7a4 4 = .ok (.arraylength, 1) := by decide +kernel
theorem dAS_newCapacity_0f7a4_5 : decode cAS_newCapacity_0f7a4 5 = .ok (.istore_n 2, 1) := by decide +kernel
theorem dAS_newCapacity_0f7a4_6 : decode cAS_newCapacity_0f7a4 6 = .ok (.iload_n 1, 1) := by decide +kernel
theorem dAS_newCapacity_0f7a4_7 : decode cAS_newCapacity_0f7a4 7 = .ok (.aload_n 0, 1) := by decide +kernel
theorem dAS_newCapacity_0f7a4_8 : decode cAS_newCapacity_0f7a4 8 = .ok (.getfield 22, 3) := by decide +kernel
theorem dAS_newCapacity_0f7a4_11 : decode cAS_newCapacity_0f7a4 11 = .ok (.ishl, 1) := by decide +kernel
theorem dAS_newCapacity_0f7a4_12 : decode cAS_newCapacity_0f7a4 12 = .ok (.istore_n 3, 1) := by decide +kernel
theorem dAS_newCapacity_0f7a4_13 : decode cAS_newCapacity_0f7a4 13 = .ok (.iload_n 3, 1) := by decide +kernel
theorem dAS_newCapacity_0f7a4_14 : decode cAS_newCapacity_0f7a4 14 = .ok (.iload_n 2, 1) := by decide +kernel
theorem dAS_newCapacity_0f7a4_15 : decode cAS_newCapacity_0f7a4 15 = .ok (.isub, 1) := by decide +kernel
theorem dAS_newCapacity_0f7a4_16 : decode cAS_newCapacity_0f7a4 16 = .ok (.istore 4, 2) := by decide +kernel
theorem dAS_newCapacity_0f7a4_18 : decode cAS_newCapacity_0f7a4 18 = .ok (.iload_n 2, 1) := by decide +kernel
theorem dAS_newCapacity_0f7a4_19 : decode cAS_newCapacity_0f7a4 19 = .ok (.iload 4, 2) := by decide +kernel
theorem dAS_newCapacity_0f7a4_21 : decode cAS_newCapacity_0f7a4 21 = .ok (.iload_n 2, 1) := by decide +kernel
theorem dAS_newCapacity_0f7a4_22 : decode cAS_newCapacity_0f7a4 22 = .ok (.iconst 2, 1) := by decide +kernel
theorem dAS_newCapacity_0f7a4_23 : decode cAS_newCapacity_0f7a4 23 = .ok (.aload_n 0, 1) := by decide +kernel
theorem dAS_newCapacity_0f7a4_24 : decode cAS_newCapacity_0f7a4 24 = .ok (.getfield 22, 3) := by decide +kernel
theorem dAS_newCapacity_0f7a4_27 : decode cAS_newCapacity_0f7a4 27 = .ok (.ishl, 1) := by decide +kernel
theorem dAS_newCapacity_0f7a4_28 : decode cAS_newCapacity_0f7a4 28 = .ok (.iadd, 1) := by decide +kernel
theorem dAS_newCapacity_0f7a4_29 : decode cAS_newCapacity_0f7a4 29 = .ok (.invokestatic 114, 3) := by decide +kernel
theorem dAS_newCapacity_0f7a4_32 : decode cAS_newCapacity_0f7a4 32 = .ok (.istore 5, 2) := by decide +kernel
theorem dAS_newCapacity_0f7a4_34 : decode cAS_newCapacity_0f7a4 34 = .ok (.iload 5, 2) := by decide +kernel
theorem dAS_newCapacity_0f7a4_36 : decode cAS_newCapacity_0f7a4 36 = .ok (.ldc 39, 2) := by decide +kernel
theorem dAS_newCapacity_0f7a4_38 : decode cAS_newCapacity_0f7a4 38 = .ok (.if_icmp .ne 13, 3) := by decide +kernel
theorem dAS_newCapacity_0f7a4_41 : decode cAS_newCapacity_0f7a4 41 = .ok (.new 120, 3) := by decide +kernel
theorem dAS_newCapacity_0f7a4_44 : decode cAS_newCapacity_0f7a4 44 = .ok (.dup, 1) := by decide +kernel
theorem dAS_newCapacity_0f7a4_45 : decode cAS_newCapacity_0f7a4 45 = .ok (.ldc 122, 2) := by decide +kernel
theorem dAS_newCapacity_0f7a4_47 : decode cAS_newCapacity_0f7a4 47 = .ok (.invokespecial 124, 3) := by decide +kernel
theorem dAS_newCapacity_0f7a4_50 : decode cAS_newCapacity_0f7a4 50 = .ok (.athrow, 1) := by decide +kernel
theorem dAS_newCapacity_0f7a4_51 : decode cAS_newCapacity_0f7a4 51 = .ok (.iload 5, 2) := by decide +kernel
theorem dAS_newCapacity_0f7a4_53 : decode cAS_newCapacity_0f7a4 53 = .ok (.aload_n 0, 1) := by decide +kernel
theorem dAS_newCapacity_0f7a4_54 : decode cAS_newCapacity_0f7a4 54 = .ok (.getfield 22, 3) := by decide +kernel
theorem dAS_newCapacity_0f7a4_57 : decode cAS_newCapacity_0f7a4 57 = .ok (.ishr, 1) := by decide +kernel
theorem dAS_newCapacity_0f7a4_58 : decode cAS_newCapacity_0f7a4 58 = .ok (.ireturn, 1) := by decide +kernel
theorem dAS_append_cf1ce_0 : decode cAS_append_cf1ce 0 = .ok (.aload_n 1, 1) := by decide +kernel
theorem dAS_append_cf1ce_1 : decode cAS_append_cf1ce 1 = .ok (.ifnonnull 8, 3) := by decide +kernel
theorem dAS_append_cf1ce_4 : decode cAS_append_cf1ce 4 = .ok (.aload_n 0, 1) := by decide +kernel
theorem dAS_append_cf1ce_5 : decode cAS_append_cf1ce 5 = .ok (.invokevirtual 204, 3) := by decide +kernel
theorem dAS_append_cf1ce_8 : decode cAS_append_cf1ce 8 = .ok (.areturn, 1) := by decide +kernel
theorem dAS_append_cf1ce_9 : decode cAS_append_cf1ce 9 = .ok (.aload_n 1, 1) := by decide +kernel
theorem dAS_append_cf1ce_10 : decode cAS_append_cf1ce 10 = .ok (.invokevirtual 32, 3) := by decide +kernel
theorem dAS_append_cf1ce_13 : decode cAS_append_cf1ce 13 = .ok (.istore_n 2, 1) := by decide +kernel
theorem dAS_append_cf1ce_14 : decode cAS_append_cf1ce 14 = .ok (.aload_n 0, 1) := by decide +kernel
theorem dAS_append_cf1ce_15 : decode cAS_append_cf1ce 15 = .ok (.aload_n 0, 1) := by decide +kernel
theorem dAS_append_cf1ce_16 : decode cAS_append_cf1ce 16 = .ok (.getfield 79, 3) := by decide +kernel
theorem dAS_append_cf1ce_19 : decode cAS_append_cf1ce 19 = .ok (.iload_n 2, 1) := by decide +kernel
theorem dAS_append_cf1ce_20 : decode cAS_append_cf1ce 20 = .ok (.iadd, 1) := by decide +kernel
theorem dAS_append_cf1ce_21 : decode cAS_append_cf1ce 21 = .ok (.invokevirtual 100, 3) := by decide +kernel
theorem dAS_append_cf1ce_24 : decode cAS_append_cf1ce 24 = .ok (.aload_n 0, 1) := by decide +kernel
theorem dAS_append_cf1ce_25 : decode cAS_append_cf1ce 25 = .ok (.aload_n 0, 1) := by decide +kernel
theorem dAS_append_cf1ce_26 : decode cAS_append_cf1ce 26 = .ok (.getfield 79, 3) := by decide +kernel
theorem dAS_append_cf1ce_29 : decode cAS_append_cf1ce 29 = .ok (.aload_n 1, 1) := by decide +kernel
theorem dAS_append_cf1ce_30 : decode cAS_append_cf1ce 30 = .ok (.invokevirtual 208, 3) := by decide +kernel
theorem dAS_append_cf1ce_33 : decode cAS_append_cf1ce 33 = .ok (.aload_n 0, 1) := by decide +kernel
theorem dAS_append_cf1ce_34 : decode cAS_append_cf1ce 34 = .ok (.dup, 1) := by decide +kernel
theorem dAS_append_cf1ce_35 : decode cAS_append_cf1ce 35 = .ok (.getfield 79, 3) := by decide +kernel
theorem dAS_append_cf1ce_38 : decode cAS_append_cf1ce 38 = .ok (.iload_n 2, 1) := by decide +kernel
theorem dAS_append_cf1ce_39 : decode cAS_append_cf1ce 39 = .ok (.iadd, 1) := by decide +kernel
theorem dAS_append_cf1ce_40 : decode cAS_append_cf1ce 40 = .ok (.putfield 79, 3) := by decide +kernel
theorem dAS_append_cf1ce_43 : decode cAS_append_cf1ce 43 = .ok (.aload_n 0, 1) := by decide +kernel
theorem dAS_append_cf1ce_44 : decode cAS_append_cf1ce 44 = .ok (.areturn, 1) := by decide +kernel
theorem dAS_append_3fe6f_0 : decode cAS_append_3fe6f 0 = .ok (.aload_n 0, 1) := by decide +kernel
theorem dAS_append_3fe6f_1 : decode cAS_append_3fe6f 1 = .ok (.aload_n 0, 1) := by decide +kernel
theorem dAS_append_3fe6f_2 : decode cAS_append_3fe6f 2 = .ok (.getfield 79, 3) := by decide +kernel
theorem dAS_append_3fe6f_5 : decode cAS_append_3fe6f 5 = .ok (.iconst 1, 1) := by decide +kernel
theorem dAS_append_3fe6f_6 : decode cAS_append_3fe6f 6 = .ok (.iadd, 1) := by decide +kernel
theorem dAS_append_3fe6f_7 : decode cAS_append_3fe6f 7 = .ok (.invokevirtual 100, 3) := by decide +kernel
theorem dAS_append_3fe6f_10 : decode cAS_append_3fe6f 10 = .ok (.aload_n 0, 1) := by decide +kernel
theorem dAS_append_3fe6f_11 : decode cAS_append_3fe6f 11 = .ok (.invokevirtual 83, 3) := by decide +kernel
theorem dAS_append_3fe6f_14 : decode cAS_append_3fe6f 14 = .ok (.ifCond .eq 31, 3) := by decide +kernel
theorem dAS_append_3fe6f_17 : decode cAS_append_3fe6f 17 = .ok (.iload_n 1, 1) := by decide +kernel
theorem dAS_append_3fe6f_18 : decode cAS_append_3fe6f 18 = .ok (.invokestatic 191, 3) := by decide +kernel
theorem dAS_append_3fe6f_21 : decode cAS_append_3fe6f 21 = .ok (.ifCond .eq 24, 3) := by decide +kernel
theorem dAS_append_3fe6f_24 : decode cAS_append_3fe6f 24 = .ok (.aload_n 0, 1) := by decide +kernel
theorem dAS_append_3fe6f_25 : decode cAS_append_3fe6f 25 = .ok (.getfield 15, 3) := by decide +kernel
theorem dAS_append_3fe6f_28 : decode cAS_append_3fe6f 28 = .ok (.aload_n 0, 1) := by decide +kernel
theorem dAS_append_3fe6f_29 : decode cAS_append_3fe6f 29 = .ok (.dup, 1) := by decide +kernel
theorem dAS_append_3fe6f_30 : decode cAS_append_3fe6f 30 = .ok (.getfield 79, 3) := by decide +kernel
theorem dAS_append_3fe6f_33 : decode cAS_append_3fe6f 33 = .ok (.dup_x1, 1) := by decide +kernel
theorem dAS_append_3fe6f_34 : decode cAS_append_3fe6f 34 = .ok (.iconst 1, 1) := by decide +kernel
theorem dAS_append_3fe6f_35 : decode cAS_append_3fe6f 35 = .ok (.iadd, 1) := by decide +kernel
theorem dAS_append_3fe6f_36 : decode cAS_append_3fe6f 36 = .ok (.putfield 79, 3) := by decide +kernel
theorem dAS_append_3fe6f_39 : decode cAS_append_3fe6f 39 = .ok (.iload_n 1, 1) := by decide +kernel
theorem dAS_append_3fe6f_40 : decode cAS_append_3fe6f 40 = .ok (.i2b, 1) := by decide +kernel
theorem dAS_append_3fe6f_41 : decode cAS_append_3fe6f 41 = .ok (.bastore, 1) := by decide +kernel
theorem dAS_append_3fe6f_42 : decode cAS_append_3fe6f 42 = .ok (.goto 33, 3) := by decide +kernel
theorem dAS_append_3fe6f_45 : decode cAS_append_3fe6f 45 = .ok (.aload_n 0, 1) := by decide +kernel
theorem dAS_append_3fe6f_46 : decode cAS_append_3fe6f 46 = .ok (.invokevirtual 83, 3) := by decide +kernel
theorem dAS_append_3fe6f_49 : decode cAS_append_3fe6f 49 = .ok (.ifCond .eq 7, 3) := by decide +kernel
theorem dAS_append_3fe6f_52 : decode cAS_append_3fe6f 52 = .ok (.aload_n 0, 1) := by decide +kernel
theorem dAS_append_3fe6f_53 : decode cAS_append_3fe6f 53 = .ok (.invokevirtual 195, 3) := by decide +kernel
theorem dAS_append_3fe6f_56 : decode cAS_append_3fe6f 56 = .ok (.aload_n 0, 1) := by decide +kernel
theorem dAS_append_3fe6f_57 : decode cAS_append_3fe6f 57 = .ok (.getfield 15, 3) := by decide +kernel
theorem dAS_append_3fe6f_60 : decode cAS_append_3fe6f 60 = .ok (.aload_n 0, 1) := by decide +kernel
theorem dAS_append_3fe6f_61 : decode cAS_append_3fe6f 61 = .ok (.dup, 1) := by decide +kernel
theorem dAS_append_3fe6f_62 : decode cAS_append_3fe6f 62 = .ok (.getfield 79, 3) := by decide +kernel
theorem dAS_append_3fe6f_65 : decode cAS_append_3fe6f 65 = .ok (.dup_x1, 1) := by decide +kernel
theorem dAS_append_3fe6f_66 : decode cAS_append_3fe6f 66 = .ok (.iconst 1, 1) := by decide +kernel
theorem dAS_append_3fe6f_67 : decode cAS_append_3fe6f 67 = .ok (.iadd, 1) := by decide +kernel
theorem dAS_append_3fe6f_68 : decode cAS_append_3fe6f 68 = .ok (.putfield 79, 3) := by decide +kernel
theorem dAS_append_3fe6f_71 : decode cAS_append_3fe6f 71 = .ok (.iload_n 1, 1) := by decide +kernel
theorem dAS_append_3fe6f_72 : decode cAS_append_3fe6f 72 = .ok (.invokestatic 197, 3) := by decide +kernel
theorem dAS_append_3fe6f_75 : decode cAS_append_3fe6f 75 = .ok (.aload_n 0, 1) := by decide +kernel
theorem dAS_append_3fe6f_76 : decode cAS_append_3fe6f 76 = .ok (.areturn, 1) := by decide +kernel
theorem dAS_append_c97b9_0 : decode cAS_append_c97b9 0 = .ok (.aload_n 0, 1) := by decide +kernel
theorem dAS_append_c97b9_1 : decode cAS_append_c97b9 1 = .ok (.getfield 79, 3) := by decide +kernel
theorem dAS_append_c97b9_4 : decode cAS_append_c97b9 4 = .ok (.istore_n 2, 1) := by decide +kernel
theorem dAS_append_c97b9_5 : decode cAS_append_c97b9 5 = .ok (.iload_n 2, 1) := by decide +kernel
theorem dAS_append_c97b9_6 : decode cAS_append_c97b9 6 = .ok (.iload_n 1, 1) := by decide +kernel
theorem dAS_append_c97b9_7 : decode cAS_append_c97b9 7 = .ok (.invokestatic 245, 3) := by decide +kernel
theorem dAS_append_c97b9_10 : decode cAS_append_c97b9 10 = .ok (.iadd, 1) := by decide +kernel
theorem dAS_append_c97b9_11 : decode cAS_append_c97b9 11 = .ok (.istore_n 3, 1) := by decide +kernel
theorem dAS_append_c97b9_12 : decode cAS_append_c97b9 12 = .ok (.aload_n 0, 1) := by decide +kernel
theorem dAS_append_c97b9_13 : decode cAS_append_c97b9 13 = .ok (.iload_n 3, 1) := by decide +kernel
theorem dAS_append_c97b9_14 : decode cAS_append_c97b9 14 = .ok (.invokevirtual 100, 3) := by decide +kernel
theorem dAS_append_c97b9_17 : decode cAS_append_c97b9 17 = .ok (.aload_n 0, 1) := by decide +kernel
theorem dAS_append_c97b9_18 : decode cAS_append_c97b9 18 = .ok (.invokevirtual 83, 3) := by decide +kernel
theorem dAS_append_c97b9_21 : decode cAS_append_c97b9 21 = .ok (.ifCond .eq 16, 3) := by decide +kernel
theorem dAS_append_c97b9_24 : decode cAS_append_c97b9 24 = .ok (.iload_n 1, 1) := by decide +kernel
theorem dAS_append_c97b9_25 : decode cAS_append_c97b9 25 = .ok (.iload_n 3, 1) := by decide +kernel
theorem dAS_append_c97b9_26 : decode cAS_append_c97b9 26 = .ok (.aload_n 0, 1) := by decide +kernel
theorem dAS_append_c97b9_27 : decode cAS_append_c97b9 27 = .ok (.getfield 15, 3) := by decide +kernel
theorem dAS_append_c97b9_30 : decode cAS_append_c97b9 30 = .ok (.invokestatic 248, 3) := by decide +kernel
theorem dAS_append_c97b9_33 : decode cAS_append_c97b9 33 = .ok (.pop, 1) := by decide +kernel
theorem dAS_append_c97b9_34 : decode cAS_append_c97b9 34 = .ok (.goto 14, 3) := by decide +kernel
theorem dAS_append_c97b9_37 : decode cAS_append_c97b9 37 = .ok (.iload_n 1, 1) := by decide +kernel
theorem dAS_append_c97b9_38 : decode cAS_append_c97b9 38 = .ok (.iload_n 2, 1) := by decide +kernel
theorem dAS_append_c97b9_39 : decode cAS_append_c97b9 39 = .ok (.iload_n 3, 1) := by decide +kernel
theorem dAS_append_c97b9_40 : decode cAS_append_c97b9 40 = .ok (.aload_n 0, 1) := by decide +kernel
theorem dAS_append_c97b9_41 : decode cAS_append_c97b9 41 = .ok (.getfield 15, 3) := by decide +kernel
theorem dAS_append_c97b9_44 : decode cAS_append_c97b9 44 = .ok (.invokestatic 251, 3) := by decide +kernel
theorem dAS_append_c97b9_47 : decode cAS_append_c97b9 47 = .ok (.pop, 1) := by decide +kernel
theorem dAS_append_c97b9_48 : decode cAS_append_c97b9 48 = .ok (.aload_n 0, 1) := by decide +kernel
theorem dAS_append_c97b9_49 : decode cAS_append_c97b9 49 = .ok (.iload_n 3, 1) := by decide +kernel
theorem dAS_append_c97b9_50 : decode cAS_append_c97b9 50 = .ok (.putfield 79, 3) := by decide +kernel
theorem dAS_append_c97b9_53 : decode cAS_append_c97b9 53 = .ok (.aload_n 0, 1) := by decide +kernel
theorem dAS_append_c97b9_54 : decode cAS_append_c97b9 54 = .ok (.areturn, 1) := by decide +kernel
theorem dAS_getValue_6d5f1_0 : decode cAS_getValue_6d5f1 0 = .ok (.aload_n 0, 1) := by decide +kernel
theorem dAS_getValue_6d5f1_1 : decode cAS_getValue_6d5f1 1 = .ok (.getfield 15, 3) := by decide +kernel
theorem dAS_getValue_6d5f1_4 : decode cAS_getValue_6d5f1 4 = .ok (.areturn, 1) := by decide +kernel
theorem dAS_isLatin1_aae02_0 : decode cAS_isLatin1_aae02 0 = .ok (.getstatic 18, 3) := by decide +kernel
theorem dAS_isLatin1_aae02_3 : decode cAS_isLatin1_aae02 3 = .ok (.ifCond .eq 14, 3) := by decide +kernel
theorem dAS_isLatin1_aae02_6 : decode cAS_isLatin1_aae02 6 = .ok (.aload_n 0, 1) := by decide +kernel
theorem dAS_isLatin1_aae02_7 : decode cAS_isLatin1_aae02 7 = .ok (.getfield 22, 3) := by decide +kernel
theorem dAS_isLatin1_aae02_10 : decode cAS_isLatin1_aae02 10 = .ok (.ifCond .ne 7, 3) := by decide +kernel
theorem dAS_isLatin1_aae02_13 : decode cAS_isLatin1_aae02 13 = .ok (.iconst 1, 1) := by decide +kernel
theorem dAS_isLatin1_aae02_14 : decode cAS_isLatin1_aae02 14 = .ok (.goto 4, 3) := by decide +kernel
theorem dAS_isLatin1_aae02_17 : decode cAS_isLatin1_aae02 17 = .ok (.iconst 0, 1) := by decide +kernel
theorem dAS_isLatin1_aae02_18 : decode cAS_isLatin1_aae02 18 = .ok (.ireturn, 1) := by decide +kernel
theorem dAS_inflateIfNeededFor_a7421_0 : decode cAS_inflateIfNeededFor_a7421 0 = .ok (.getstatic 18, 3) := by decide +kernel
theorem dAS_inflateIfNeededFor_a7421_3 : decode cAS_inflateIfNeededFor_a7421 3 = .ok (.ifCond .eq 18, 3) := by decide +kernel
theorem dAS_inflateIfNeededFor_a7421_6 : decode cAS_inflateIfNeededFor_a7421 6 = .ok (.aload_n 0, 1) := by decide +kernel
theorem dAS_inflateIfNeededFor_a7421_7 : decode cAS_inflateIfNeededFor_a7421 7 = .ok (.getfield 22, 3) := by decide +kernel
theorem dAS_inflateIfNeededFor_a7421_10 : decode cAS_inflateIfNeededFor_a7421 10 = .ok (.aload_n 1, 1) := by decide +kernel
theorem dAS_inflateIfNeededFor_a7421_11 : decode cAS_inflateIfNeededFor_a7421 11 = .ok (.invokevirtual 40, 3) := by decide +kernel
theorem dAS_inflateIfNeededFor_a7421_14 : decode cAS_inflateIfNeededFor_a7421 14 = .ok (.if_icmp .eq 7, 3) := by decide +kernel
theorem dAS_inflateIfNeededFor_a7421_17 : decode cAS_inflateIfNeededFor_a7421 17 = .ok (.aload_n 0, 1) := by decide +kernel
theorem dAS_inflateIfNeededFor_a7421_18 : decode cAS_inflateIfNeededFor_a7421 18 = .ok (.invokevirtual 195, 3) := by decide +kernel
theorem dAS_inflateIfNeededFor_a7421_21 : decode cAS_inflateIfNeededFor_a7421 21 = .ok (.return_, 1) := by decide +kernel
theorem dAS_putStringAt_47b60_0 : decode cAS_putStringAt_47b60 0 = .ok (.aload_n 0, 1) := by decide +kernel
theorem dAS_putStringAt_47b60_1 : decode cAS_putStringAt_47b60 1 = .ok (.aload_n 2, 1) := by decide +kernel
theorem dAS_putStringAt_47b60_2 : decode cAS_putStringAt_47b60 2 = .ok (.invokevirtual 397, 3) := by decide +kernel
theorem dAS_putStringAt_47b60_5 : decode cAS_putStringAt_47b60 5 = .ok (.aload_n 2, 1) := by decide +kernel
theorem dAS_putStringAt_47b60_6 : decode cAS_putStringAt_47b60 6 = .ok (.aload_n 0, 1) := by decide +kernel
theorem dAS_putStringAt_47b60_7 : decode cAS_putStringAt_47b60 7 = .ok (.getfield 15, 3) := by decide +kernel
theorem dAS_putStringAt_47b60_10 : decode cAS_putStringAt_47b60 10 = .ok (.iload_n 1, 1) := by decide +kernel
theorem dAS_putStringAt_47b60_11 : decode cAS_putStringAt_47b60 11 = .ok (.aload_n 0, 1) := by decide +kernel
theorem dAS_putStringAt_47b60_12 : decode cAS_putStringAt_47b60 12 = .ok (.getfield 22, 3) := by decide +kernel
theorem dAS_putStringAt_47b60_15 : decode cAS_putStringAt_47b60 15 = .ok (.invokevirtual 399, 3) := by decide +kernel
theorem dAS_putStringAt_47b60_18 : decode cAS_putStringAt_47b60 18 = .ok (.return_, 1) := by decide +kernel
theorem dIN_getChars_ba4f3_0 : decode cIN_getChars_ba4f3 0 = .ok (.iload_n 1, 1) := by decide +kernel
theorem dIN_getChars_ba4f3_1 : decode cIN_getChars_ba4f3 1 = .ok (.istore 5, 2) := by decide +kernel
theorem dIN_getChars_ba4f3_3 : decode cIN_getChars_ba4f3 3 = .ok (.iload_n 0, 1) := by decide +kernel
theorem dIN_getChars_ba4f3_4 : decode cIN_getChars_ba4f3 4 = .ok (.ifCond .ge 7, 3) := by decide +kernel
theorem dIN_getChars_ba4f3_7 : decode cIN_getChars_ba4f3 7 = .ok (.iconst 1, 1) := by decide +kernel
theorem dIN_getChars_ba4f3_8 : decode cIN_getChars_ba4f3 8 = .ok (.goto 4, 3) := by decide +kernel
theorem dIN_getChars_ba4f3_11 : decode cIN_getChars_ba4f3 11 = .ok (.iconst 0, 1) := by decide +kernel
theorem dIN_getChars_ba4f3_12 : decode cIN_getChars_ba4f3 12 = .ok (.istore 6, 2) := by decide +kernel
theorem dIN_getChars_ba4f3_14 : decode cIN_getChars_ba4f3 14 = .ok (.iload 6, 2) := by decide +kernel
theorem dIN_getChars_ba4f3_16 : decode cIN_getChars_ba4f3 16 = .ok (.ifCond .ne 6, 3) := by decide +kernel
theorem dIN_getChars_ba4f3_19 : decode cIN_getChars_ba4f3 19 = .ok (.iload_n 0, 1) := by decide +kernel
theorem dIN_getChars_ba4f3_20 : decode cIN_getChars_ba4f3 20 = .ok (.ineg, 1) := by decide +kernel
theorem dIN_getChars_ba4f3_21 : decode cIN_getChars_ba4f3 21 = .ok (.istore_n 0, 1) := by decide +kernel
theorem dIN_getChars_ba4f3_22 : decode cIN_getChars_ba4f3 22 = .ok (.iload_n 0, 1) := by decide +kernel
theorem dIN_getChars_ba4f3_23 : decode cIN_getChars_ba4f3 23 = .ok (.bipush (-100), 2) := by decide +kernel
theorem dIN_getChars_ba4f3_25 : decode cIN_getChars_ba4f3 25 = .ok (.if_icmp .gt 47, 3) := by decide +kernel
theorem dIN_getChars_ba4f3_28 : decode cIN_getChars_ba4f3 28 = .ok (.iload_n 0, 1) := by decide +kernel
theorem dIN_getChars_ba4f3_29 : decode cIN_getChars_ba4f3 29 = .ok (.bipush 100, 2) := by decide +kernel
theorem dIN_getChars_ba4f3_31 : decode cIN_getChars_ba4f3 31 = .ok (.idiv, 1) := by decide +kernel
theorem dIN_getChars_ba4f3_32 : decode cIN_getChars_ba4f3 32 = .ok (.istore_n 3, 1) := by decide +kernel
theorem dIN_getChars_ba4f3_33 : decode cIN_getChars_ba4f3 33 = .ok (.iload_n 3, 1) := by decide +kernel
theorem dIN_getChars_ba4f3_34 : decode cIN_getChars_ba4f3 34 = .ok (.bipush 100, 2) := by decide +kernel
theorem dIN_getChars_ba4f3_36 : decode cIN_getChars_ba4f3 36 = .ok (.imul, 1) := by decide +kernel
theorem dIN_getChars_ba4f3_37 : decode cIN_getChars_ba4f3 37 = .ok (.iload_n 0, 1) := by decide +kernel
theorem dIN_getChars_ba4f3_38 : decode cIN_getChars_ba4f3 38 = .ok (.isub, 1) := by decide +kernel
theorem dIN_getChars_ba4f3_39 : decode cIN_getChars_ba4f3 39 = .ok (.istore 4, 2) := by decide +kernel
theorem dIN_getChars_ba4f3_41 : decode cIN_getChars_ba4f3 41 = .ok (.iload_n 3, 1) := by decide +kernel
theorem dIN_getChars_ba4f3_42 : decode cIN_getChars_ba4f3 42 = .ok (.istore_n 0, 1) := by decide +kernel
theorem dIN_getChars_ba4f3_43 : decode cIN_getChars_ba4f3 43 = .ok (.aload_n 2, 1) := by decide +kernel
theorem dIN_getChars_ba4f3_44 : decode cIN_getChars_ba4f3 44 = .ok (.iinc 5 (-1), 3) := by decide +kernel
theorem dIN_getChars_ba4f3_47 : decode cIN_getChars_ba4f3 47 = .ok (.iload 5, 2) := by decide +kernel
theorem dIN_getChars_ba4f3_49 : decode cIN_getChars_ba4f3 49 = .ok (.getstatic 83, 3) := by decide +kernel
theorem dIN_getChars_ba4f3_52 : decode cIN_getChars_ba4f3 52 = .ok (.iload 4, 2) := by decide +kernel
theorem dIN_getChars_ba4f3_54 : decode cIN_getChars_ba4f3 54 = .ok (.baload, 1) := by decide +kernel
theorem dIN_getChars_ba4f3_55 : decode cIN_getChars_ba4f3 55 = .ok (.bastore, 1) := by decide +kernel
theorem dIN_getChars_ba4f3_56 : decode cIN_getChars_ba4f3 56 = .ok (.aload_n 2, 1) := by decide +kernel
theorem dIN_getChars_ba4f3_57 : decode cIN_getChars_ba4f3 57 = .ok (.iinc 5 (-1), 3) := by decide +kernel
theorem dIN_getChars_ba4f3_60 : decode cIN_getChars_ba4f3 60 = .ok (.iload 5, 2) := by decide +kernel
theorem dIN_getChars_ba4f3_62 : decode cIN_getChars_ba4f3 62 = .ok (.getstatic 87, 3) := by decide +kernel
theorem dIN_getChars_ba4f3_65 : decode cIN_getChars_ba4f3 65 = .ok (.iload 4, 2) := by decide +kernel
theorem dIN_getChars_ba4f3_67 : decode cIN_getChars_ba4f3 67 = .ok (.baload, 1) := by decide +kernel
theorem dIN_getChars_ba4f3_68 : decode cIN_getChars_ba4f3 68 = .ok (.bastore, 1) := by decide +kernel
theorem dIN_getChars_ba4f3_69 : decode cIN_getChars_ba4f3 69 = .ok (.goto (-47), 3) := by decide +kernel
theorem dIN_getChars_ba4f3_72 : decode cIN_getChars_ba4f3 72 = .ok (.aload_n 2, 1) := by decide +kernel
theorem dIN_getChars_ba4f3_73 : decode cIN_getChars_ba4f3 73 = .ok (.iinc 5 (-1), 3) := by decide +kernel
theorem dIN_getChars_ba4f3_76 : decode cIN_getChars_ba4f3 76 = .ok (.iload 5, 2) := by decide +kernel
theorem dIN_getChars_ba4f3_78 : decode cIN_getChars_ba4f3 78 = .ok (.getstatic 83, 3) := by decide +kernel
theorem dIN_getChars_ba4f3_81 : decode cIN_getChars_ba4f3 81 = .ok (.iload_n 0, 1) := by decide +kernel
theorem dIN_getChars_ba4f3_82 : decode cIN_getChars_ba4f3 82 = .ok (.ineg, 1) := by decide +kernel
theorem dIN_getChars_ba4f3_83 : decode cIN_getChars_ba4f3 83 = .ok (.baload, 1) := by decide +kernel
theorem dIN_getChars_ba4f3_84 : decode cIN_getChars_ba4f3 84 = .ok (.bastore, 1) := by decide +kernel
theorem dIN_getChars_ba4f3_85 : decode cIN_getChars_ba4f3 85 = .ok (.iload_n 0, 1) := by decide +kernel
theorem dIN_getChars_ba4f3_86 : decode cIN_getChars_ba4f3 86 = .ok (.bipush (-9), 2) := by decide +kernel
theorem dIN_getChars_ba4f3_88 : decode cIN_getChars_ba4f3 88 = .ok (.if_icmp .ge 16, 3) := by decide +kernel
theorem dIN_getChars_ba4f3_91 : decode cIN_getChars_ba4f3 91 = .ok (.aload_n 2, 1) := by decide +kernel
theorem dIN_getChars_ba4f3_92 : decode cIN_getChars_ba4f3 92 = .ok (.iinc 5 (-1), 3) := by decide +kernel
theorem dIN_getChars_ba4f3_95 : decode cIN_getChars_ba4f3 95 = .ok (.iload 5, 2) := by decide +kernel
theorem dIN_getChars_ba4f3_97 : decode cIN_getChars_ba4f3 97 = .ok (.getstatic 87, 3) := by decide +kernel
theorem dIN_getChars_ba4f3_100 : decode cIN_getChars_ba4f3 100 = .ok (.iload_n 0, 1) := by decide +kernel
theorem dIN_getChars_ba4f3_101 : decode cIN_getChars_ba4f3 101 = .ok (.ineg, 1) := by decide +kernel
theorem dIN_getChars_ba4f3_102 : decode cIN_getChars_ba4f3 102 = .ok (.baload, 1) := by decide +kernel
theorem dIN_getChars_ba4f3_103 : decode cIN_getChars_ba4f3 103 = .ok (.bastore, 1) := by decide +kernel
theorem dIN_getChars_ba4f3_104 : decode cIN_getChars_ba4f3 104 = .ok (.iload 6, 2) := by decide +kernel
theorem dIN_getChars_ba4f3_106 : decode cIN_getChars_ba4f3 106 = .ok (.ifCond .eq 12, 3) := by decide +kernel
theorem dIN_getChars_ba4f3_109 : decode cIN_getChars_ba4f3 109 = .ok (.aload_n 2, 1) := by decide +kernel
theorem dIN_getChars_ba4f3_110 : decode cIN_getChars_ba4f3 110 = .ok (.iinc 5 (-1), 3) := by decide +kernel
theorem dIN_getChars_ba4f3_113 : decode cIN_getChars_ba4f3 113 = .ok (.iload 5, 2) := by decide +kernel
theorem dIN_getChars_ba4f3_115 : decode cIN_getChars_ba4f3 115 = .ok (.bipush 45, 2) := by decide +kernel
theorem dIN_getChars_ba4f3_117 : decode cIN_getChars_ba4f3 117 = .ok (.bastore, 1) := by decide +kernel
theorem dIN_getChars_ba4f3_118 : decode cIN_getChars_ba4f3 118 = .ok (.iload 5, 2) := by decide +kernel
theorem dIN_getChars_ba4f3_120 : decode cIN_getChars_ba4f3 120 = .ok (.ireturn, 1) := by decide +kernel
theorem dIN_stringSize_0f7a4_0 : decode cIN_stringSize_0f7a4 0 = .ok (.iconst 1, 1) := by decide +kernel
theorem dIN_stringSize_0f7a4_1 : decode cIN_stringSize_0f7a4 1 = .ok (.istore_n 1, 1) := by decide +kernel
theorem dIN_stringSize_0f7a4_2 : decode cIN_stringSize_0f7a4 2 = .ok (.iload_n 0, 1) := by decide +kernel
theorem dIN_stringSize_0f7a4_3 : decode cIN_stringSize_0f7a4 3 = .ok (.ifCond .lt 8, 3) := by decide +kernel
theorem dIN_stringSize_0f7a4_6 : decode cIN_stringSize_0f7a4 6 = .ok (.iconst 0, 1) := by decide +kernel
theorem dIN_stringSize_0f7a4_7 : decode cIN_stringSize_0f7a4 7 = .ok (.istore_n 1, 1) := by decide +kernel
theorem dIN_stringSize_0f7a4_8 : decode cIN_stringSize_0f7a4 8 = .ok (.iload_n 0, 1) := by decide +kernel
theorem dIN_stringSize_0f7a4_9 : decode cIN_stringSize_0f7a4 9 = .ok (.ineg, 1) := by decide +kernel
theorem dIN_stringSize_0f7a4_10 : decode cIN_stringSize_0f7a4 10 = .ok (.istore_n 0, 1) := by decide +kernel
theorem dIN_stringSize_0f7a4_11 : decode cIN_stringSize_0f7a4 11 = .ok (.bipush (-10), 2) := by decide +kernel
theorem dIN_stringSize_0f7a4_13 : decode cIN_stringSize_0f7a4 13 = .ok (.istore_n 2, 1) := by decide +kernel
theorem dIN_stringSize_0f7a4_14 : decode cIN_stringSize_0f7a4 14 = .ok (.iconst 1, 1) := by decide +kernel
theorem dIN_stringSize_0f7a4_15 : decode cIN_stringSize_0f7a4 15 = .ok (.istore_n 3, 1) := by decide +kernel
theorem dIN_stringSize_0f7a4_16 : decode cIN_stringSize_0f7a4 16 = .ok (.iload_n 3, 1) := by decide +kernel
theorem dIN_stringSize_0f7a4_17 : decode cIN_stringSize_0f7a4 17 = .ok (.bipush 10, 2) := by decide +kernel
theorem dIN_stringSize_0f7a4_19 : decode cIN_stringSize_0f7a4 19 = .ok (.if_icmp .ge 23, 3) := by decide +kernel
theorem dIN_stringSize_0f7a4_22 : decode cIN_stringSize_0f7a4 22 = .ok (.iload_n 0, 1) := by decide +kernel
theorem dIN_stringSize_0f7a4_23 : decode cIN_stringSize_0f7a4 23 = .ok (.iload_n 2, 1) := by decide +kernel
theorem dIN_stringSize_0f7a4_24 : decode cIN_stringSize_0f7a4 24 = .ok (.if_icmp .le 7, 3) := by decide +kernel
theorem dIN_stringSize_0f7a4_27 : decode cIN_stringSize_0f7a4 27 = .ok (.iload_n 3, 1) := by decide +kernel
theorem dIN_stringSize_0f7a4_28 : decode cIN_stringSize_0f7a4 28 = .ok (.iload_n 1, 1) := by decide +kernel
theorem dIN_stringSize_0f7a4_29 : decode cIN_stringSize_0f7a4 29 = .ok (.iadd, 1) := by decide +kernel
theorem dIN_stringSize_0f7a4_30 : decode cIN_stringSize_0f7a4 30 = .ok (.ireturn, 1) := by decide +kernel
theorem dIN_stringSize_0f7a4_31 : decode cIN_stringSize_0f7a4 31 = .ok (.bipush 10, 2) := by decide +kernel
theorem dIN_stringSize_0f7a4_33 : decode cIN_stringSize_0f7a4 33 = .ok (.iload_n 2, 1) := by decide +kernel
theorem dIN_stringSize_0f7a4_34 : decode cIN_stringSize_0f7a4 34 = .ok (.imul, 1) := by decide +kernel
theorem dIN_stringSize_0f7a4_35 : decode cIN_stringSize_0f7a4 35 = .ok (.istore_n 2, 1) := by decide +kernel
theorem dIN_stringSize_0f7a4_36 : decode cIN_stringSize_0f7a4 36 = .ok (.iinc 3 1, 3) := by decide +kernel
theorem dIN_stringSize_0f7a4_39 : decode cIN_stringSize_0f7a4 39 = .ok (.goto (-23), 3) := by decide +kernel
theorem dIN_stringSize_0f7a4_42 : decode cIN_stringSize_0f7a4 42 = .ok (.bipush 10, 2) := by decide +kernel
theorem dIN_stringSize_0f7a4_44 : decode cIN_stringSize_0f7a4 44 = .ok (.iload_n 1, 1) := by decide +kernel
theorem dIN_stringSize_0f7a4_45 : decode cIN_stringSize_0f7a4 45 = .ok (.iadd, 1) := by decide +kernel
theorem dIN_stringSize_0f7a4_46 : decode cIN_stringSize_0f7a4 46 = .ok (.ireturn, 1) := by decide +kernel
theorem dIN_valueOf_2dffe_0 : decode cIN_valueOf_2dffe 0 = .ok (.iload_n 0, 1) := by decide +kernel
theorem dIN_valueOf_2dffe_1 : decode cIN_valueOf_2dffe 1 = .ok (.bipush (-128), 2) := by decide +kernel
theorem dIN_valueOf_2dffe_3 : decode cIN_valueOf_2dffe 3 = .ok (.if_icmp .lt 20, 3) := by decide +kernel
theorem dIN_valueOf_2dffe_6 : decode cIN_valueOf_2dffe 6 = .ok (.iload_n 0, 1) := by decide +kernel
theorem dIN_valueOf_2dffe_7 : decode cIN_valueOf_2dffe 7 = .ok (.getstatic 191, 3) := by decide +kernel
theorem dIN_valueOf_2dffe_10 : decode cIN_valueOf_2dffe 10 = .ok (.if_icmp .gt 13, 3) := by decide +kernel
theorem dIN_valueOf_2dffe_13 : decode cIN_valueOf_2dffe 13 = .ok (.getstatic 195, 3) := by decide +kernel
theorem dIN_valueOf_2dffe_16 : decode cIN_valueOf_2dffe 16 = .ok (.iload_n 0, 1) := by decide +kernel
theorem dIN_valueOf_2dffe_17 : decode cIN_valueOf_2dffe 17 = .ok (.sipush 128, 3) := by decide +kernel
theorem dIN_valueOf_2dffe_20 : decode cIN_valueOf_2dffe 20 = .ok (.iadd, 1) := by decide +kernel
theorem dIN_valueOf_2dffe_21 : decode cIN_valueOf_2dffe 21 = .ok (.aaload, 1) := by decide +kernel
theorem dIN_valueOf_2dffe_22 : decode cIN_valueOf_2dffe 22 = .ok (.areturn, 1) := by decide +kernel
theorem dIN_valueOf_2dffe_23 : decode cIN_valueOf_2dffe 23 = .ok (.new 1, 3) := by decide +kernel
theorem dIN_valueOf_2dffe_26 : decode cIN_valueOf_2dffe 26 = .ok (.dup, 1) := by decide +kernel
theorem dIN_valueOf_2dffe_27 : decode cIN_valueOf_2dffe 27 = .ok (.iload_n 0, 1) := by decide +kernel
theorem dIN_valueOf_2dffe_28 : decode cIN_valueOf_2dffe 28 = .ok (.invokespecial 199, 3) := by decide +kernel
theorem dIN_valueOf_2dffe_31 : decode cIN_valueOf_2dffe 31 = .ok (.areturn, 1) := by decide +kernel
theorem dIN_compareTo_e8194_0 : decode cIN_compareTo_e8194 0 = .ok (.aload_n 0, 1) := by decide +kernel
theorem dIN_compareTo_e8194_1 : decode cIN_compareTo_e8194 1 = .ok (.getfield 205, 3) := by decide +kernel
theorem dIN_compareTo_e8194_4 : decode cIN_compareTo_e8194 4 = .ok (.aload_n 1, 1) := by decide +kernel
theorem dIN_compareTo_e8194_5 : decode cIN_compareTo_e8194 5 = .ok (.getfield 205, 3) := by decide +kernel
theorem dIN_compareTo_e8194_8 : decode cIN_compareTo_e8194 8 = .ok (.invokestatic 259, 3) := by decide +kernel
theorem dIN_compareTo_e8194_11 : decode cIN_compareTo_e8194 11 = .ok (.ireturn, 1) := by decide +kernel
theorem dIN_compare_7cf53_0 : decode cIN_compare_7cf53 0 = .ok (.iload_n 0, 1) := by decide +kernel
theorem dIN_compare_7cf53_1 : decode cIN_compare_7cf53 1 = .ok (.iload_n 1, 1) := by decide +kernel
theorem dIN_compare_7cf53_2 : decode cIN_compare_7cf53 2 = .ok (.if_icmp .ge 7, 3) := by decide +kernel
theorem dIN_compare_7cf53_5 : decode cIN_compare_7cf53 5 = .ok (.iconst (-1), 1) := by decide +kernel
theorem dIN_compare_7cf53_6 : decode cIN_compare_7cf53 6 = .ok (.goto 13, 3) := by decide +kernel
theorem dIN_compare_7cf53_9 : decode cIN_compare_7cf53 9 = .ok (.iload_n 0, 1) := by decide +kernel
theorem dIN_compare_7cf53_10 : decode cIN_compare_7cf53 10 = .ok (.iload_n 1, 1) := by decide +kernel
theorem dIN_compare_7cf53_11 : decode cIN_compare_7cf53 11 = .ok (.if_icmp .ne 7, 3) := by decide +kernel
theorem dIN_compare_7cf53_14 : decode cIN_compare_7cf53 14 = .ok (.iconst 0, 1) := by decide +kernel
theorem dIN_compare_7cf53_15 : decode cIN_compare_7cf53 15 = .ok (.goto 4, 3) := by decide +kernel
theorem dIN_compare_7cf53_18 : decode cIN_compare_7cf53 18 = .ok (.iconst 1, 1) := by decide +kernel
theorem dIN_compare_7cf53_19 : decode cIN_compare_7cf53 19 = .ok (.ireturn, 1) := by decide +kernel
theorem dIN_compareTo_e47da_0 : decode cIN_compareTo_e47da 0 = .ok (.aload_n 0, 1) := by decide +kernel
theorem dIN_compareTo_e47da_1 : decode cIN_compareTo_e47da 1 = .ok (.aload_n 1, 1) := by decide +kernel
theorem dIN_compareTo_e47da_2 : decode cIN_compareTo_e47da 2 = .ok (.checkcast 1, 3) := by decide +kernel
theorem dIN_compareTo_e47da_5 : decode cIN_compareTo_e47da 5 = .ok (.invokevirtual 284, 3) := by decide +kernel
theorem dIN_compareTo_e47da_8 : decode cIN_compareTo_e47da 8 = .ok (.ireturn, 1) := by decide +kernel
theorem dJ0_init_81219_0 : decode cJ0_init_81219 0 = .ok (.aload_n 0, 1) := by decide +kernel
theorem dJ0_init_81219_1 : decode cJ0_init_81219 1 = .ok (.aload_n 1, 1) := by decide +kernel
theorem dJ0_init_81219_2 : decode cJ0_init_81219 2 = .ok (.aconst_null, 1) := by decide +kernel
theorem dJ0_init_81219_3 : decode cJ0_init_81219 3 = .ok (.invokespecial 489, 3) := by decide +kernel
theorem dJ0_init_81219_6 : decode cJ0_init_81219 6 = .ok (.return_, 1) := by decide +kernel
theorem dJ0_getBytes_840e7_0 : decode cJ0_getBytes_840e7 0 = .ok (.aload_n 0, 1) := by decide +kernel
theorem dJ0_getBytes_840e7_1 : decode cJ0_getBytes_840e7 1 = .ok (.invokevirtual 335, 3) := by decide +kernel
theorem dJ0_getBytes_840e7_4 : decode cJ0_getBytes_840e7 4 = .ok (.iload_n 3, 1) := by decide +kernel
theorem dJ0_getBytes_840e7_5 : decode cJ0_getBytes_840e7 5 = .ok (.if_icmp .ne 23, 3) := by decide +kernel
theorem dJ0_getBytes_840e7_8 : decode cJ0_getBytes_840e7 8 = .ok (.aload_n 0, 1) := by decide +kernel
theorem dJ0_getBytes_840e7_9 : decode cJ0_getBytes_840e7 9 = .ok (.getfield 9, 3) := by decide +kernel
theorem dJ0_getBytes_840e7_12 : decode cJ0_getBytes_840e7 12 = .ok (.iconst 0, 1) := by decide +kernel
theorem dJ0_getBytes_840e7_13 : decode cJ0_getBytes_840e7 13 = .ok (.aload_n 1, 1) := by decide +kernel
theorem dJ0_getBytes_840e7_14 : decode cJ0_getBytes_840e7 14 = .ok (.iload_n 2, 1) := by decide +kernel
theorem dJ0_getBytes_840e7_15 : decode cJ0_getBytes_840e7 15 = .ok (.iload_n 3, 1) := by decide +kernel
theorem dJ0_getBytes_840e7_16 : decode cJ0_getBytes_840e7 16 = .ok (.ishl, 1) := by decide +kernel
theorem dJ0_getBytes_840e7_17 : decode cJ0_getBytes_840e7 17 = .ok (.aload_n 0, 1) := by decide +kernel
theorem dJ0_getBytes_840e7_18 : decode cJ0_getBytes_840e7 18 = .ok (.getfield 9, 3) := by decide +kernel
theorem dJ0_getBytes_840e7_21 : decode cJ0_getBytes_840e7 21 = .ok (.arraylength, 1) := by decide +kernel
theorem dJ0_getBytes_840e7_22 : decode cJ0_getBytes_840e7 22 = .ok (.invokestatic 212, 3) := by decide +kernel
theorem dJ0_getBytes_840e7_25 : decode cJ0_getBytes_840e7 25 = .ok (.goto 18, 3) := by decide +kernel
theorem dJ0_getBytes_840e7_28 : decode cJ0_getBytes_840e7 28 = .ok (.aload_n 0, 1) := by decide +kernel
theorem dJ0_getBytes_840e7_29 : decode cJ0_getBytes_840e7 29 = .ok (.getfield 9, 3) := by decide +kernel
theorem dJ0_getBytes_840e7_32 : decode cJ0_getBytes_840e7 32 = .ok (.iconst 0, 1) := by decide +kernel
theorem dJ0_getBytes_840e7_33 : decode cJ0_getBytes_840e7 33 = .ok (.aload_n 1, 1) := by decide +kernel
theorem dJ0_getBytes_840e7_34 : decode cJ0_getBytes_840e7 34 = .ok (.iload_n 2, 1) := by decide +kernel
theorem dJ0_getBytes_840e7_35 : decode cJ0_getBytes_840e7 35 = .ok (.aload_n 0, 1) := by decide +kernel
theorem dJ0_getBytes_840e7_36 : decode cJ0_getBytes_840e7 36 = .ok (.getfield 9, 3) := by decide +kernel
theorem dJ0_getBytes_840e7_39 : decode cJ0_getBytes_840e7 39 = .ok (.arraylength, 1) := by decide +kernel
theorem dJ0_getBytes_840e7_40 : decode cJ0_getBytes_840e7 40 = .ok (.invokestatic 106, 3) := by decide +kernel
theorem dJ0_getBytes_840e7_43 : decode cJ0_getBytes_840e7 43 = .ok (.return_, 1) := by decide +kernel
theorem dJ0_init_db425_0 : decode cJ0_init_db425 0 = .ok (.aload_n 0, 1) := by decide +kernel
theorem dJ0_init_db425_1 : decode cJ0_init_db425 1 = .ok (.invokespecial 1, 3) := by decide +kernel
theorem dJ0_init_db425_4 : decode cJ0_init_db425 4 = .ok (.aload_n 1, 1) := by decide +kernel
theorem dJ0_init_db425_5 : decode cJ0_init_db425 5 = .ok (.invokevirtual 552, 3) := by decide +kernel
theorem dJ0_init_db425_8 : decode cJ0_init_db425 8 = .ok (.astore_n 3, 1) := by decide +kernel
theorem dJ0_init_db425_9 : decode cJ0_init_db425 9 = .ok (.aload_n 1, 1) := by decide +kernel
theorem dJ0_init_db425_10 : decode cJ0_init_db425 10 = .ok (.invokevirtual 549, 3) := by decide +kernel
theorem dJ0_init_db425_13 : decode cJ0_init_db425 13 = .ok (.istore 4, 2) := by decide +kernel
theorem dJ0_init_db425_15 : decode cJ0_init_db425 15 = .ok (.aload_n 1, 1) := by decide +kernel
theorem dJ0_init_db425_16 : decode cJ0_init_db425 16 = .ok (.invokevirtual 1047, 3) := by decide +kernel
theorem dJ0_init_db425_19 : decode cJ0_init_db425 19 = .ok (.ifCond .eq 22, 3) := by decide +kernel
theorem dJ0_init_db425_22 : decode cJ0_init_db425 22 = .ok (.aload_n 0, 1) := by decide +kernel
theorem dJ0_init_db425_23 : decode cJ0_init_db425 23 = .ok (.iconst 0, 1) := by decide +kernel
theorem dJ0_init_db425_24 : decode cJ0_init_db425 24 = .ok (.putfield 15, 3) := by decide +kernel
theorem dJ0_init_db425_27 : decode cJ0_init_db425 27 = .ok (.aload_n 0, 1) := by decide +kernel
theorem dJ0_init_db425_28 : decode cJ0_init_db425 28 = .ok (.aload_n 3, 1) := by decide +kernel
theorem dJ0_init_db425_29 : decode cJ0_init_db425 29 = .ok (.iconst 0, 1) := by decide +kernel
theorem dJ0_init_db425_30 : decode cJ0_init_db425 30 = .ok (.iload 4, 2) := by decide +kernel
theorem dJ0_init_db425_32 : decode cJ0_init_db425 32 = .ok (.invokestatic 54, 3) := by decide +kernel
theorem dJ0_init_db425_35 : decode cJ0_init_db425 35 = .ok (.putfield 9, 3) := by decide +kernel
theorem dJ0_init_db425_38 : decode cJ0_init_db425 38 = .ok (.goto 59, 3) := by decide +kernel
theorem dJ0_init_db425_41 : decode cJ0_init_db425 41 = .ok (.getstatic 38, 3) := by decide +kernel
theorem dJ0_init_db425_44 : decode cJ0_init_db425 44 = .ok (.ifCond .eq 35, 3) := by decide +kernel
theorem dJ0_init_db425_47 : decode cJ0_init_db425 47 = .ok (.aload_n 1, 1) := by decide +kernel
theorem dJ0_init_db425_48 : decode cJ0_init_db425 48 = .ok (.getfield 1048, 3) := by decide +kernel
theorem dJ0_init_db425_51 : decode cJ0_init_db425 51 = .ok (.ifCond .eq 28, 3) := by decide +kernel
theorem dJ0_init_db425_54 : decode cJ0_init_db425 54 = .ok (.aload_n 0, 1) := by decide +kernel
theorem dJ0_init_db425_55 : decode cJ0_init_db425 55 = .ok (.aload_n 3, 1) := by decide +kernel
theorem dJ0_init_db425_56 : decode cJ0_init_db425 56 = .ok (.iconst 0, 1) := by decide +kernel
theorem dJ0_init_db425_57 : decode cJ0_init_db425 57 = .ok (.iload 4, 2) := by decide +kernel
theorem dJ0_init_db425_59 : decode cJ0_init_db425 59 = .ok (.invokestatic 1051, 3) := by decide +kernel
theorem dJ0_init_db425_62 : decode cJ0_init_db425 62 = .ok (.putfield 9, 3) := by decide +kernel
theorem dJ0_init_db425_65 : decode cJ0_init_db425 65 = .ok (.aload_n 0, 1) := by decide +kernel
theorem dJ0_init_db425_66 : decode cJ0_init_db425 66 = .ok (.aload_n 0, 1) := by decide +kernel
theorem dJ0_init_db425_67 : decode cJ0_init_db425 67 = .ok (.getfield 9, 3) := by decide +kernel
theorem dJ0_init_db425_70 : decode cJ0_init_db425 70 = .ok (.iload 4, 2) := by decide +kernel
theorem dJ0_init_db425_72 : decode cJ0_init_db425 72 = .ok (.invokestatic 47, 3) := by decide +kernel
theorem dJ0_init_db425_75 : decode cJ0_init_db425 75 = .ok (.putfield 15, 3) := by decide +kernel
theorem dJ0_init_db425_78 : decode cJ0_init_db425 78 = .ok (.return_, 1) := by decide +kernel
theorem dJ0_init_db425_79 : decode cJ0_init_db425 79 = .ok (.aload_n 0, 1) := by decide +kernel
theorem dJ0_init_db425_80 : decode cJ0_init_db425 80 = .ok (.iconst 1, 1) := by decide +kernel
theorem dJ0_init_db425_81 : decode cJ0_init_db425 81 = .ok (.putfield 15, 3) := by decide +kernel
theorem dJ0_init_db425_84 : decode cJ0_init_db425 84 = .ok (.aload_n 0, 1) := by decide +kernel
theorem dJ0_init_db425_85 : decode cJ0_init_db425 85 = .ok (.aload_n 3, 1) := by decide +kernel
theorem dJ0_init_db425_86 : decode cJ0_init_db425 86 = .ok (.iconst 0, 1) := by decide +kernel
theorem dJ0_init_db425_87 : decode cJ0_init_db425 87 = .ok (.iload 4, 2) := by decide +kernel
theorem dJ0_init_db425_89 : decode cJ0_init_db425 89 = .ok (.iconst 1, 1) := by decide +kernel
theorem dJ0_init_db425_90 : decode cJ0_init_db425 90 = .ok (.ishl, 1) := by decide +kernel
theorem dJ0_init_db425_91 : decode cJ0_init_db425 91 = .ok (.invokestatic 54, 3) := by decide +kernel
theorem dJ0_init_db425_94 : decode cJ0_init_db425 94 = .ok (.putfield 9, 3) := by decide +kernel
theorem dJ0_init_db425_97 : decode cJ0_init_db425 97 = .ok (.return_, 1) := by decide +kernel
theorem dSB_init_a7421_0 : decode cSB_init_a7421 0 = .ok (.aload_n 0, 1) := by decide +kernel
theorem dSB_init_a7421_1 : decode cSB_init_a7421 1 = .ok (.aload_n 1, 1) := by decide +kernel
theorem dSB_init_a7421_2 : decode cSB_init_a7421 2 = .ok (.invokespecial 7, 3) := by decide +kernel
theorem dSB_init_a7421_5 : decode cSB_init_a7421 5 = .ok (.return_, 1) := by decide +kernel
theorem dSB_append_15ec4_0 : decode cSB_append_15ec4 0 = .ok (.aload_n 0, 1) := by decide +kernel
theorem dSB_append_15ec4_1 : decode cSB_append_15ec4 1 = .ok (.aload_n 1, 1) := by decide +kernel
theorem dSB_append_15ec4_2 : decode cSB_append_15ec4 2 = .ok (.invokespecial 29, 3) := by decide +kernel
theorem dSB_append_15ec4_5 : decode cSB_append_15ec4 5 = .ok (.pop, 1) := by decide +kernel
theorem dSB_append_15ec4_6 : decode cSB_append_15ec4 6 = .ok (.aload_n 0, 1) := by decide +kernel
theorem dSB_append_15ec4_7 : decode cSB_append_15ec4 7 = .ok (.areturn, 1) := by decide +kernel
theorem dSB_append_cf468_0 : decode cSB_append_cf468 0 = .ok (.aload_n 0, 1) := by decide +kernel
theorem dSB_append_cf468_1 : decode cSB_append_cf468 1 = .ok (.iload_n 1, 1) := by decide +kernel
theorem dSB_append_cf468_2 : decode cSB_append_cf468 2 = .ok (.invokespecial 50, 3) := by decide +kernel
theorem dSB_append_cf468_5 : decode cSB_append_cf468 5 = .ok (.pop, 1) := by decide +kernel
theorem dSB_append_cf468_6 : decode cSB_append_cf468 6 = .ok (.aload_n 0, 1) := by decide +kernel
theorem dSB_append_cf468_7 : decode cSB_append_cf468 7 = .ok (.areturn, 1) := by decide +kernel
theorem dSB_append_bf812_0 : decode cSB_append_bf812 0 = .ok (.aload_n 0, 1) := by decide +kernel
theorem dSB_append_bf812_1 : decode cSB_append_bf812 1 = .ok (.iload_n 1, 1) := by decide +kernel
theorem dSB_append_bf812_2 : decode cSB_append_bf812 2 = .ok (.invokespecial 53, 3) := by decide +kernel
theorem dSB_append_bf812_5 : decode cSB_append_bf812 5 = .ok (.pop, 1) := by decide +kernel
theorem dSB_append_bf812_6 : decode cSB_append_bf812 6 = .ok (.aload_n 0, 1) := by decide +kernel
theorem dSB_append_bf812_7 : decode cSB_append_bf812 7 = .ok (.areturn, 1) := by decide +kernel
theorem dSB_toString_0e30d_0 : decode cSB_toString_0e30d 0 = .ok (.new 18, 3) := by decide +kernel
theorem dSB_toString_0e30d_3 : decode cSB_toString_0e30d 3 = .ok (.dup, 1) := by decide +kernel
theorem dSB_toString_0e30d_4 : decode cSB_toString_0e30d 4 = .ok (.aload_n 0, 1) := by decide +kernel
theorem dSB_toString_0e30d_5 : decode cSB_toString_0e30d 5 = .ok (.invokespecial 137, 3) := by decide +kernel
theorem dSB_toString_0e30d_8 : decode cSB_toString_0e30d 8 = .ok (.areturn, 1) := by decide +kernel
theorem dSB_append_cf1ce_0 : decode cSB_append_cf1ce 0 = .ok (.aload_n 0, 1) := by decide +kernel
theorem dSB_append_cf1ce_1 : decode cSB_append_cf1ce 1 = .ok (.aload_n 1, 1) := by decide +kernel
theorem dSB_append_cf1ce_2 : decode cSB_append_cf1ce 2 = .ok (.invokevirtual 23, 3) := by decide +kernel
theorem dSB_append_cf1ce_5 : decode cSB_append_cf1ce 5 = .ok (.areturn, 1) := by decide +kernel
theorem dSB_length_8abf5_0 : decode cSB_length_8abf5 0 = .ok (.aload_n 0, 1) := by decide +kernel
theorem dSB_length_8abf5_1 : decode cSB_length_8abf5 1 = .ok (.invokespecial 343, 3) := by decide +kernel
theorem dSB_length_8abf5_4 : decode cSB_length_8abf5 4 = .ok (.ireturn, 1) := by decide +kernel
theorem dJ1_canEncode_fc78d_0 : decode cJ1_canEncode_fc78d 0 = .ok (.iload_n 0, 1) := by decide +kernel
theorem dJ1_canEncode_fc78d_1 : decode cJ1_canEncode_fc78d 1 = .ok (.sipush 255, 3) := by decide +kernel
theorem dJ1_canEncode_fc78d_4 : decode cJ1_canEncode_fc78d 4 = .ok (.if_icmp .gt 7, 3) := by decide +kernel
theorem dJ1_canEncode_fc78d_7 : decode cJ1_canEncode_fc78d 7 = .ok (.iconst 1, 1) := by decide +kernel
theorem dJ1_canEncode_fc78d_8 : decode cJ1_canEncode_fc78d 8 = .ok (.goto 4, 3) := by decide +kernel
theorem dJ1_canEncode_fc78d_11 : decode cJ1_canEncode_fc78d 11 = .ok (.iconst 0, 1) := by decide +kernel
theorem dJ1_canEncode_fc78d_12 : decode cJ1_canEncode_fc78d 12 = .ok (.ireturn, 1) := by decide +kernel
theorem dAC_init_da8c8_0 : decode cAC_init_da8c8 0 = .ok (.aload_n 0, 1) := by decide +kernel
theorem dAC_init_da8c8_1 : decode cAC_init_da8c8 1 = .ok (.invokespecial 1, 3) := by decide +kernel
theorem dAC_init_da8c8_4 : decode cAC_init_da8c8 4 = .ok (.return_, 1) := by decide +kernel
theorem dAB_init_da8c8_0 : decode cAB_init_da8c8 0 = .ok (.aload_n 0, 1) := by decide +kernel
theorem dAB_init_da8c8_1 : decode cAB_init_da8c8 1 = .ok (.invokespecial 1, 3) := by decide +kernel
theorem dAB_init_da8c8_4 : decode cAB_init_da8c8 4 = .ok (.aload_n 0, 1) := by decide +kernel
theorem dAB_init_da8c8_5 : decode cAB_init_da8c8 5 = .ok (.iconst 0, 1) := by decide +kernel
theorem dAB_init_da8c8_6 : decode cAB_init_da8c8 6 = .ok (.putfield 7, 3) := by decide +kernel
theorem dAB_init_da8c8_9 : decode cAB_init_da8c8 9 = .ok (.return_, 1) := by decide +kernel
theorem dSE_init_0 : decode cSE_init 0 = .ok (.aload_n 0, 1) := by decide +kernel
theorem dSE_init_1 : decode cSE_init 1 = .ok (.invokespecial 1, 3) := by decide +kernel
theorem dSE_init_4 : decode cSE_init 4 = .ok (.aload_n 0, 1) := by decide +kernel
theorem dSE_init_5 : decode cSE_init 5 = .ok (.aload_n 1, 1) := by decide +kernel
theorem dSE_init_6 : decode cSE_init 6 = .ok (.invokeinterface 16 1, 5) := by decide +kernel
theorem dSE_init_11 : decode cSE_init 11 = .ok (.putfield 7, 3) := by decide +kernel
theorem dSE_init_14 : decode cSE_init 14 = .ok (.aload_n 0, 1) := by decide +kernel
theorem dSE_init_15 : decode cSE_init 15 = .ok (.aload_n 1, 1) := by decide +kernel
theorem dSE_init_16 : decode cSE_init 16 = .ok (.invokeinterface 22 1, 5) := by decide +kernel
theorem dSE_init_21 : decode cSE_init 21 = .ok (.putfield 13, 3) := by decide +kernel
theorem dSE_init_24 : decode cSE_init 24 = .ok (.return_, 1) := by decide +kernel
theorem dSE_getValue_0 : decode cSE_getValue 0 = .ok (.aload_n 0, 1) := by decide +kernel
theorem dSE_getValue_1 : decode cSE_getValue 1 = .ok (.getfield 13, 3) := by decide +kernel
theorem dSE_getValue_4 : decode cSE_getValue 4 = .ok (.areturn, 1) := by decide +kernel
theorem dAM_init_0 : decode cAM_init 0 = .ok (.aload_n 0, 1) := by decide +kernel
theorem dAM_init_1 : decode cAM_init 1 = .ok (.invokespecial 1, 3) := by decide +kernel
theorem dAM_init_4 : decode cAM_init 4 = .ok (.return_, 1) := by decide +kernel
theorem dAL_init_da8c8_0 : decode cAL_init_da8c8 0 = .ok (.aload_n 0, 1) := by decide +kernel
theorem dAL_init_da8c8_1 : decode cAL_init_da8c8 1 = .ok (.invokespecial 1, 3) := by decide +kernel
theorem dAL_init_da8c8_4 : decode cAL_init_da8c8 4 = .ok (.aload_n 0, 1) := by decide +kernel
theorem dAL_init_da8c8_5 : decode cAL_init_da8c8 5 = .ok (.getstatic 39, 3) := by decide +kernel
theorem dAL_init_da8c8_8 : decode cAL_init_da8c8 8 = .ok (.putfield 9, 3) := by decide +kernel
theorem dAL_init_da8c8_11 : decode cAL_init_da8c8 11 = .ok (.return_, 1) := by decide +kernel
theorem dAL_grow_92f84_0 : decode cAL_grow_92f84 0 = .ok (.aload_n 0, 1) := by decide +kernel
theorem dAL_grow_92f84_1 : decode cAL_grow_92f84 1 = .ok (.getfield 9, 3) := by decide +kernel
theorem dAL_grow_92f84_4 : decode cAL_grow_92f84 4 = .ok (.arraylength, 1) := by decide +kernel
theorem dAL_grow_92f84_5 : decode cAL_grow_92f84 5 = .ok (.istore_n 2, 1) := by decide +kernel
theorem dAL_grow_92f84_6 : decode cAL_grow_92f84 6 = .ok (.iload_n 2, 1) := by decide +kernel
theorem dAL_grow_92f84_7 : decode cAL_grow_92f84 7 = .ok (.ifCond .gt 13, 3) := by decide +kernel
theorem dAL_grow_92f84_10 : decode cAL_grow_92f84 10 = .ok (.aload_n 0, 1) := by decide +kernel
theorem dAL_grow_92f84_11 : decode cAL_grow_92f84 11 = .ok (.getfield 9, 3) := by decide +kernel
theorem dAL_grow_92f84_14 : decode cAL_grow_92f84 14 = .ok (.getstatic 39, 3) := by decide +kernel
theorem dAL_grow_92f84_17 : decode cAL_grow_92f84 17 = .ok (.if_acmp .eq 28, 3) := by decide +kernel
theorem dAL_grow_92f84_20 : decode cAL_grow_92f84 20 = .ok (.iload_n 2, 1) := by decide +kernel
theorem dAL_grow_92f84_21 : decode cAL_grow_92f84 21 = .ok (.iload_n 1, 1) := by decide +kernel
theorem dAL_grow_92f84_22 : decode cAL_grow_92f84 22 = .ok (.iload_n 2, 1) := by decide +kernel
theorem dAL_grow_92f84_23 : decode cAL_grow_92f84 23 = .ok (.isub, 1) := by decide +kernel
theorem dAL_grow_92f84_24 : decode cAL_grow_92f84 24 = .ok (.iload_n 2, 1) := by decide +kernel
theorem dAL_grow_92f84_25 : decode cAL_grow_92f84 25 = .ok (.iconst 1, 1) := by decide +kernel
theorem dAL_grow_92f84_26 : decode cAL_grow_92f84 26 = .ok (.ishr, 1) := by decide +kernel
theorem dAL_grow_92f84_27 : decode cAL_grow_92f84 27 = .ok (.invokestatic 73, 3) := by decide +kernel
theorem dAL_grow_92f84_30 : decode cAL_grow_92f84 30 = .ok (.istore_n 3, 1) := by decide +kernel
theorem dAL_grow_92f84_31 : decode cAL_grow_92f84 31 = .ok (.aload_n 0, 1) := by decide +kernel
theorem dAL_grow_92f84_32 : decode cAL_grow_92f84 32 = .ok (.aload_n 0, 1) := by decide +kernel
theorem dAL_grow_92f84_33 : decode cAL_grow_92f84 33 = .ok (.getfield 9, 3) := by decide +kernel
theorem dAL_grow_92f84_36 : decode cAL_grow_92f84 36 = .ok (.iload_n 3, 1) := by decide +kernel
theorem dAL_grow_92f84_37 : decode cAL_grow_92f84 37 = .ok (.invokestatic 66, 3) := by decide +kernel
theorem dAL_grow_92f84_40 : decode cAL_grow_92f84 40 = .ok (.dup_x1, 1) := by decide +kernel
theorem dAL_grow_92f84_41 : decode cAL_grow_92f84 41 = .ok (.putfield 9, 3) := by decide +kernel
theorem dAL_grow_92f84_44 : decode cAL_grow_92f84 44 = .ok (.areturn, 1) := by decide +kernel
theorem dAL_grow_92f84_45 : decode cAL_grow_92f84 45 = .ok (.aload_n 0, 1) := by decide +kernel
theorem dAL_grow_92f84_46 : decode cAL_grow_92f84 46 = .ok (.bipush 10, 2) := by decide +kernel
theorem dAL_grow_92f84_48 : decode cAL_grow_92f84 48 = .ok (.iload_n 1, 1) := by decide +kernel
theorem dAL_grow_92f84_49 : decode cAL_grow_92f84 49 = .ok (.invokestatic 79, 3) := by decide +kernel
theorem dAL_grow_92f84_52 : decode cAL_grow_92f84 52 = .ok (.anewarray 7, 3) := by decide +kernel
theorem dAL_grow_92f84_55 : decode cAL_grow_92f84 55 = .ok (.dup_x1, 1) := by decide +kernel
theorem dAL_grow_92f84_56 : decode cAL_grow_92f84 56 = .ok (.putfield 9, 3) := by decide +kernel
theorem dAL_grow_92f84_59 : decode cAL_grow_92f84 59 = .ok (.areturn, 1) := by decide +kernel
theorem dAL_grow_d5877_0 : decode cAL_grow_d5877 0 = .ok (.aload_n 0, 1) := by decide +kernel
theorem dAL_grow_d5877_1 : decode cAL_grow_d5877 1 = .ok (.aload_n 0, 1) := by decide +kernel
theorem dAL_grow_d5877_2 : decode cAL_grow_d5877 2 = .ok (.getfield 48, 3) := by decide +kernel
theorem dAL_grow_d5877_5 : decode cAL_grow_d5877 5 = .ok (.iconst 1, 1) := by decide +kernel
theorem dAL_grow_d5877_6 : decode cAL_grow_d5877 6 = .ok (.iadd, 1) := by decide +kernel
theorem dAL_grow_d5877_7 : decode cAL_grow_d5877 7 = .ok (.invokevirtual 69, 3) := by decide +kernel
theorem dAL_grow_d5877_10 : decode cAL_grow_d5877 10 = .ok (.areturn, 1) := by decide +kernel
theorem dAL_size_8abf5_0 : decode cAL_size_8abf5 0 = .ok (.aload_n 0, 1) := by decide +kernel
theorem dAL_size_8abf5_1 : decode cAL_size_8abf5 1 = .ok (.getfield 48, 3) := by decide +kernel
theorem dAL_size_8abf5_4 : decode cAL_size_8abf5 4 = .ok (.ireturn, 1) := by decide +kernel
theorem dAL_elementData_915e3_0 : decode cAL_elementData_915e3 0 = .ok (.aload_n 0, 1) := by decide +kernel
theorem dAL_elementData_915e3_1 : decode cAL_elementData_915e3 1 = .ok (.getfield 9, 3) := by decide +kernel
theorem dAL_elementData_915e3_4 : decode cAL_elementData_915e3 4 = .ok (.iload_n 1, 1) := by decide +kernel
theorem dAL_elementData_915e3_5 : decode cAL_elementData_915e3 5 = .ok (.aaload, 1) := by decide +kernel
theorem dAL_elementData_915e3_6 : decode cAL_elementData_915e3 6 = .ok (.areturn, 1) := by decide +kernel
theorem dAL_get_915e3_0 : decode cAL_get_915e3 0 = .ok (.iload_n 1, 1) := by decide +kernel
theorem dAL_get_915e3_1 : decode cAL_get_915e3 1 = .ok (.aload_n 0, 1) := by decide +kernel
theorem dAL_get_915e3_2 : decode cAL_get_915e3 2 = .ok (.getfield 48, 3) := by decide +kernel
theorem dAL_get_915e3_5 : decode cAL_get_915e3 5 = .ok (.invokestatic 118, 3) := by decide +kernel
theorem dAL_get_915e3_8 : decode cAL_get_915e3 8 = .ok (.pop, 1) := by decide +kernel
theorem dAL_get_915e3_9 : decode cAL_get_915e3 9 = .ok (.aload_n 0, 1) := by decide +kernel
theorem dAL_get_915e3_10 : decode cAL_get_915e3 10 = .ok (.iload_n 1, 1) := by decide +kernel
theorem dAL_get_915e3_11 : decode cAL_get_915e3 11 = .ok (.invokevirtual 123, 3) := by decide +kernel
theorem dAL_get_915e3_14 : decode cAL_get_915e3 14 = .ok (.areturn, 1) := by decide +kernel
theorem dAL_add_72be8_0 : decode cAL_add_72be8 0 = .ok (.iload_n 3, 1) := by decide +kernel
theorem dAL_add_72be8_1 : decode cAL_add_72be8 1 = .ok (.aload_n 2, 1) := by decide +kernel
theorem dAL_add_72be8_2 : decode cAL_add_72be8 2 = .ok (.arraylength, 1) := by decide +kernel
theorem dAL_add_72be8_3 : decode cAL_add_72be8 3 = .ok (.if_icmp .ne 8, 3) := by decide +kernel
theorem dAL_add_72be8_6 : decode cAL_add_72be8 6 = .ok (.aload_n 0, 1) := by decide +kernel
theorem dAL_add_72be8_7 : decode cAL_add_72be8 7 = .ok (.invokevirtual 129, 3) := by decide +kernel
theorem dAL_add_72be8_10 : decode cAL_add_72be8 10 = .ok (.astore_n 2, 1) := by decide +kernel
theorem dAL_add_72be8_11 : decode cAL_add_72be8 11 = .ok (.aload_n 2, 1) := by decide +kernel
theorem dAL_add_72be8_12 : decode cAL_add_72be8 12 = .ok (.iload_n 3, 1) := by decide +kernel
theorem dAL_add_72be8_13 : decode cAL_add_72be8 13 = .ok (.aload_n 1, 1) := by decide +kernel
theorem dAL_add_72be8_14 : decode cAL_add_72be8 14 = .ok (.aastore, 1) := by decide +kernel
theorem dAL_add_72be8_15 : decode cAL_add_72be8 15 = .ok (.aload_n 0, 1) := by decide +kernel
theorem dAL_add_72be8_16 : decode cAL_add_72be8 16 = .ok (.iload_n 3, 1) := by decide +kernel
theorem dAL_add_72be8_17 : decode cAL_add_72be8 17 = .ok (.iconst 1, 1) := by decide +kernel
theorem dAL_add_72be8_18 : decode cAL_add_72be8 18 = .ok (.iadd, 1) := by decide +kernel
theorem dAL_add_72be8_19 : decode cAL_add_72be8 19 = .ok (.putfield 48, 3) := by decide +kernel
theorem dAL_add_72be8_22 : decode cAL_add_72be8 22 = .ok (.return_, 1) := by decide +kernel
theorem dAL_add_9ea2d_0 : decode cAL_add_9ea2d 0 = .ok (.aload_n 0, 1) := by decide +kernel
theorem dAL_add_9ea2d_1 : decode cAL_add_9ea2d 1 = .ok (.dup, 1) := by decide +kernel
theorem dAL_add_9ea2d_2 : decode cAL_add_9ea2d 2 = .ok (.getfield 63, 3) := by decide +kernel
theorem dAL_add_9ea2d_5 : decode cAL_add_9ea2d 5 = .ok (.iconst 1, 1) := by decide +kernel
theorem dAL_add_9ea2d_6 : decode cAL_add_9ea2d 6 = .ok (.iadd, 1) := by decide +kernel
theorem dAL_add_9ea2d_7 : decode cAL_add_9ea2d 7 = .ok (.putfield 63, 3) := by decide +kernel
theorem dAL_add_9ea2d_10 : decode cAL_add_9ea2d 10 = .ok (.aload_n 0, 1) := by decide +kernel
theorem dAL_add_9ea2d_11 : decode cAL_add_9ea2d 11 = .ok (.aload_n 1, 1) := by decide +kernel
theorem dAL_add_9ea2d_12 : decode cAL_add_9ea2d 12 = .ok (.aload_n 0, 1) := by decide +kernel
theorem dAL_add_9ea2d_13 : decode cAL_add_9ea2d 13 = .ok (.getfield 9, 3) := by decide +kernel
theorem dAL_add_9ea2d_16 : decode cAL_add_9ea2d 16 = .ok (.aload_n 0, 1) := by decide +kernel
theorem dAL_add_9ea2d_17 : decode cAL_add_9ea2d 17 = .ok (.getfield 48, 3) := by decide +kernel
theorem dAL_add_9ea2d_20 : decode cAL_add_9ea2d 20 = .ok (.invokevirtual 131, 3) := by decide +kernel
theorem dAL_add_9ea2d_23 : decode cAL_add_9ea2d 23 = .ok (.iconst 1, 1) := by decide +kernel
theorem dAL_add_9ea2d_24 : decode cAL_add_9ea2d 24 = .ok (.ireturn, 1) := by decide +kernel
theorem dAR_copyOf_9075b_0 : decode cAR_copyOf_9075b 0 = .ok (.iload_n 1, 1) := by decide +kernel
theorem dAR_copyOf_9075b_1 : decode cAR_copyOf_9075b 1 = .ok (.aload_n 0, 1) := by decide +kernel
theorem dAR_copyOf_9075b_2 : decode cAR_copyOf_9075b 2 = .ok (.arraylength, 1) := by decide +kernel
theorem dAR_copyOf_9075b_3 : decode cAR_copyOf_9075b 3 = .ok (.if_icmp .ne 11, 3) := by decide +kernel
theorem dAR_copyOf_9075b_6 : decode cAR_copyOf_9075b 6 = .ok (.aload_n 0, 1) := by decide +kernel
theorem dAR_copyOf_9075b_7 : decode cAR_copyOf_9075b 7 = .ok (.invokevirtual 310, 3) := by decide +kernel
theorem dAR_copyOf_9075b_10 : decode cAR_copyOf_9075b 10 = .ok (.checkcast 311, 3) := by decide +kernel
theorem dAR_copyOf_9075b_13 : decode cAR_copyOf_9075b 13 = .ok (.areturn, 1) := by decide +kernel
theorem dAR_copyOf_9075b_14 : decode cAR_copyOf_9075b 14 = .ok (.iload_n 1, 1) := by decide +kernel
theorem dAR_copyOf_9075b_15 : decode cAR_copyOf_9075b 15 = .ok (.newarray .byte, 2) := by decide +kernel
theorem dAR_copyOf_9075b_17 : decode cAR_copyOf_9075b 17 = .ok (.astore_n 2, 1) := by decide +kernel
theorem dAR_copyOf_9075b_18 : decode cAR_copyOf_9075b 18 = .ok (.aload_n 0, 1) := by decide +kernel
theorem dAR_copyOf_9075b_19 : decode cAR_copyOf_9075b 19 = .ok (.iconst 0, 1) := by decide +kernel
theorem dAR_copyOf_9075b_20 : decode cAR_copyOf_9075b 20 = .ok (.aload_n 2, 1) := by decide +kernel
theorem dAR_copyOf_9075b_21 : decode cAR_copyOf_9075b 21 = .ok (.iconst 0, 1) := by decide +kernel
theorem dAR_copyOf_9075b_22 : decode cAR_copyOf_9075b 22 = .ok (.aload_n 0, 1) := by decide +kernel
theorem dAR_copyOf_9075b_23 : decode cAR_copyOf_9075b 23 = .ok (.arraylength, 1) := by decide +kernel
theorem dAR_copyOf_9075b_24 : decode cAR_copyOf_9075b 24 = .ok (.iload_n 1, 1) := by decide +kernel
theorem dAR_copyOf_9075b_25 : decode cAR_copyOf_9075b 25 = .ok (.invokestatic 304, 3) := by decide +kernel
theorem dAR_copyOf_9075b_28 : decode cAR_copyOf_9075b 28 = .ok (.invokestatic 150, 3) := by decide +kernel
theorem dAR_copyOf_9075b_31 : decode cAR_copyOf_9075b 31 = .ok (.aload_n 2, 1) := by decide +kernel
theorem dAR_copyOf_9075b_32 : decode cAR_copyOf_9075b 32 = .ok (.areturn, 1) := by decide +kernel
theorem dAR_checkLength_df160_0 : decode cAR_checkLength_df160 0 = .ok (.iload_n 1, 1) := by decide +kernel
theorem dAR_checkLength_df160_1 : decode cAR_checkLength_df160 1 = .ok (.iload_n 0, 1) := by decide +kernel
theorem dAR_checkLength_df160_2 : decode cAR_checkLength_df160 2 = .ok (.if_icmp .ge 35, 3) := by decide +kernel
theorem dAR_checkLength_df160_5 : decode cAR_checkLength_df160 5 = .ok (.new 43, 3) := by decide +kernel
theorem dAR_checkLength_df160_8 : decode cAR_checkLength_df160 8 = .ok (.dup, 1) := by decide +kernel
theorem dAR_checkLength_df160_9 : decode cAR_checkLength_df160 9 = .ok (.new 45, 3) := by decide +kernel
theorem dAR_checkLength_df160_12 : decode cAR_checkLength_df160 12 = .ok (.dup, 1) := by decide +kernel
theorem dAR_checkLength_df160_13 : decode cAR_checkLength_df160 13 = .ok (.invokespecial 47, 3) := by decide +kernel
theorem dAR_checkLength_df160_16 : decode cAR_checkLength_df160 16 = .ok (.iload_n 0, 1) := by decide +kernel
theorem dAR_checkLength_df160_17 : decode cAR_checkLength_df160 17 = .ok (.invokevirtual 54, 3) := by decide +kernel
theorem dAR_checkLength_df160_20 : decode cAR_checkLength_df160 20 = .ok (.ldc_w 337, 3) := by decide +kernel
theorem dAR_checkLength_df160_23 : decode cAR_checkLength_df160 23 = .ok (.invokevirtual 50, 3) := by decide +kernel
theorem dAR_checkLength_df160_26 : decode cAR_checkLength_df160 26 = .ok (.iload_n 1, 1) := by decide +kernel
theorem dAR_checkLength_df160_27 : decode cAR_checkLength_df160 27 = .ok (.invokevirtual 54, 3) := by decide +kernel
theorem dAR_checkLength_df160_30 : decode cAR_checkLength_df160 30 = .ok (.invokevirtual 61, 3) := by decide +kernel
theorem dAR_checkLength_df160_33 : decode cAR_checkLength_df160 33 = .ok (.invokespecial 65, 3) := by decide +kernel
theorem dAR_checkLength_df160_36 : decode cAR_checkLength_df160 36 = .ok (.athrow, 1) := by decide +kernel
theorem dAR_checkLength_df160_37 : decode cAR_checkLength_df160 37 = .ok (.return_, 1) := by decide +kernel
theorem dAR_copyOfRange_39247_0 : decode cAR_copyOfRange_39247 0 = .ok (.iload_n 1, 1) := by decide +kernel
theorem dAR_copyOfRange_39247_1 : decode cAR_copyOfRange_39247 1 = .ok (.ifCond .ne 9, 3) := by decide +kernel
theorem dAR_copyOfRange_39247_4 : decode cAR_copyOfRange_39247 4 = .ok (.iload_n 2, 1) := by decide +kernel
theorem dAR_copyOfRange_39247_5 : decode cAR_copyOfRange_39247 5 = .ok (.aload_n 0, 1) := by decide +kernel
theorem dAR_copyOfRange_39247_6 : decode cAR_copyOfRange_39247 6 = .ok (.arraylength, 1) := by decide +kernel
theorem dAR_copyOfRange_39247_7 : decode cAR_copyOfRange_39247 7 = .ok (.if_icmp .eq 10, 3) := by decide +kernel
theorem dAR_copyOfRange_39247_10 : decode cAR_copyOfRange_39247 10 = .ok (.aload_n 0, 1) := by decide +kernel
theorem dAR_copyOfRange_39247_11 : decode cAR_copyOfRange_39247 11 = .ok (.iload_n 1, 1) := by decide +kernel
theorem dAR_copyOfRange_39247_12 : decode cAR_copyOfRange_39247 12 = .ok (.iload_n 2, 1) := by decide +kernel
theorem dAR_copyOfRange_39247_13 : decode cAR_copyOfRange_39247 13 = .ok (.invokestatic 339, 3) := by decide +kernel
theorem dAR_copyOfRange_39247_16 : decode cAR_copyOfRange_39247 16 = .ok (.areturn, 1) := by decide +kernel
theorem dAR_copyOfRange_39247_17 : decode cAR_copyOfRange_39247 17 = .ok (.aload_n 0, 1) := by decide +kernel
theorem dAR_copyOfRange_39247_18 : decode cAR_copyOfRange_39247 18 = .ok (.invokevirtual 310, 3) := by decide +kernel
theorem dAR_copyOfRange_39247_21 : decode cAR_copyOfRange_39247 21 = .ok (.checkcast 311, 3) := by decide +kernel
theorem dAR_copyOfRange_39247_24 : decode cAR_copyOfRange_39247 24 = .ok (.areturn, 1) := by decide +kernel
theorem dAR_copyOfRangeByte_39247_0 : decode cAR_copyOfRangeByte_39247 0 = .ok (.iload_n 1, 1) := by decide +kernel
theorem dAR_copyOfRangeByte_39247_1 : decode cAR_copyOfRangeByte_39247 1 = .ok (.iload_n 2, 1) := by decide +kernel
theorem dAR_copyOfRangeByte_39247_2 : decode cAR_copyOfRangeByte_39247 2 = .ok (.invokestatic 343, 3) := by decide +kernel
theorem dAR_copyOfRangeByte_39247_5 : decode cAR_copyOfRangeByte_39247 5 = .ok (.iload_n 2, 1) := by decide +kernel
theorem dAR_copyOfRangeByte_39247_6 : decode cAR_copyOfRangeByte_39247 6 = .ok (.iload_n 1, 1) := by decide +kernel
theorem dAR_copyOfRangeByte_39247_7 : decode cAR_copyOfRangeByte_39247 7 = .ok (.isub, 1) := by decide +kernel
theorem dAR_copyOfRangeByte_39247_8 : decode cAR_copyOfRangeByte_39247 8 = .ok (.istore_n 3, 1) := by decide +kernel
theorem dAR_copyOfRangeByte_39247_9 : decode cAR_copyOfRangeByte_39247 9 = .ok (.iload_n 3, 1) := by decide +kernel
theorem dAR_copyOfRangeByte_39247_10 : decode cAR_copyOfRangeByte_39247 10 = .ok (.newarray .byte, 2) := by decide +kernel
theorem dAR_copyOfRangeByte_39247_12 : decode cAR_copyOfRangeByte_39247 12 = .ok (.astore 4, 2) := by decide +kernel
theorem dAR_copyOfRangeByte_39247_14 : decode cAR_copyOfRangeByte_39247 14 = .ok (.aload_n 0, 1) := by decide +kernel
theorem dAR_copyOfRangeByte_39247_15 : decode cAR_copyOfRangeByte_39247 15 = .ok (.iload_n 1, 1) := by decide +kernel
theorem dAR_copyOfRangeByte_39247_16 : decode cAR_copyOfRangeByte_39247 16 = .ok (.aload 4, 2) := by decide +kernel
theorem dAR_copyOfRangeByte_39247_18 : decode cAR_copyOfRangeByte_39247 18 = .ok (.iconst 0, 1) := by decide +kernel
theorem dAR_copyOfRangeByte_39247_19 : decode cAR_copyOfRangeByte_39247 19 = .ok (.aload_n 0, 1) := by decide +kernel
theorem dAR_copyOfRangeByte_39247_20 : decode cAR_copyOfRangeByte_39247 20 = .ok (.arraylength, 1) := by decide +kernel
theorem dAR_copyOfRangeByte_39247_21 : decode cAR_copyOfRangeByte_39247 21 = .ok (.iload_n 1, 1) := by decide +kernel
theorem dAR_copyOfRangeByte_39247_22 : decode cAR_copyOfRangeByte_39247 22 = .ok (.isub, 1) := by decide +kernel
theorem dAR_copyOfRangeByte_39247_23 : decode cAR_copyOfRangeByte_39247 23 = .ok (.iload_n 3, 1) := by decide +kernel
theorem dAR_copyOfRangeByte_39247_24 : decode cAR_copyOfRangeByte_39247 24 = .ok (.invokestatic 304, 3) := by decide +kernel
theorem dAR_copyOfRangeByte_39247_27 : decode cAR_copyOfRangeByte_39247 27 = .ok (.invokestatic 150, 3) := by decide +kernel
theorem dAR_copyOfRangeByte_39247_30 : decode cAR_copyOfRangeByte_39247 30 = .ok (.aload 4, 2) := by decide +kernel
theorem dAR_copyOfRangeByte_39247_32 : decode cAR_copyOfRangeByte_39247 32 = .ok (.areturn, 1) := by decide +kernel
theorem dOJ_requireNonNull_262c5_0 : decode cOJ_requireNonNull_262c5 0 = .ok (.aload_n 0, 1) := by decide +kernel
theorem dOJ_requireNonNull_262c5_1 : decode cOJ_requireNonNull_262c5 1 = .ok (.ifnonnull 11, 3) := by decide +kernel
theorem dOJ_requireNonNull_262c5_4 : decode cOJ_requireNonNull_262c5 4 = .ok (.new 84, 3) := by decide +kernel
theorem dOJ_requireNonNull_262c5_7 : decode cOJ_requireNonNull_262c5 7 = .ok (.dup, 1) := by decide +kernel
theorem dOJ_requireNonNull_262c5_8 : decode cOJ_requireNonNull_262c5 8 = .ok (.invokespecial 86, 3) := by decide +kernel
theorem dOJ_requireNonNull_262c5_11 : decode cOJ_requireNonNull_262c5 11 = .ok (.athrow, 1) := by decide +kernel
theorem dOJ_requireNonNull_262c5_12 : decode cOJ_requireNonNull_262c5 12 = .ok (.aload_n 0, 1) := by decide +kernel
theorem dOJ_requireNonNull_262c5_13 : decode cOJ_requireNonNull_262c5 13 = .ok (.areturn, 1) := by decide +kernel
theorem dOJ_checkIndex_7cf53_0 : decode cOJ_checkIndex_7cf53 0 = .ok (.iload_n 0, 1) := by decide +kernel
theorem dOJ_checkIndex_7cf53_1 : decode cOJ_checkIndex_7cf53 1 = .ok (.iload_n 1, 1) := by decide +kernel
theorem dOJ_checkIndex_7cf53_2 : decode cOJ_checkIndex_7cf53 2 = .ok (.aconst_null, 1) := by decide +kernel
theorem dOJ_checkIndex_7cf53_3 : decode cOJ_checkIndex_7cf53 3 = .ok (.invokestatic 105, 3) := by decide +kernel
theorem dOJ_checkIndex_7cf53_6 : decode cOJ_checkIndex_7cf53 6 = .ok (.ireturn, 1) := by decide +kernel
theorem dTE_init_0 : decode cTE_init 0 = .ok (.aload_n 0, 1) := by decide +kernel
theorem dTE_init_1 : decode cTE_init 1 = .ok (.invokespecial 3, 3) := by decide +kernel
theorem dTE_init_4 : decode cTE_init 4 = .ok (.aload_n 0, 1) := by decide +kernel
theorem dTE_init_5 : decode cTE_init 5 = .ok (.iconst 1, 1) := by decide +kernel
theorem dTE_init_6 : decode cTE_init 6 = .ok (.putfield 9, 3) := by decide +kernel
theorem dTE_init_9 : decode cTE_init 9 = .ok (.aload_n 0, 1) := by decide +kernel
theorem dTE_init_10 : decode cTE_init 10 = .ok (.aload_n 1, 1) := by decide +kernel
theorem dTE_init_11 : decode cTE_init 11 = .ok (.putfield 15, 3) := by decide +kernel
theorem dTE_init_14 : decode cTE_init 14 = .ok (.aload_n 0, 1) := by decide +kernel
theorem dTE_init_15 : decode cTE_init 15 = .ok (.aload_n 2, 1) := by decide +kernel
theorem dTE_init_16 : decode cTE_init 16 = .ok (.putfield 19, 3) := by decide +kernel
theorem dTE_init_19 : decode cTE_init 19 = .ok (.aload_n 0, 1) := by decide +kernel
theorem dTE_init_20 : decode cTE_init 20 = .ok (.aload_n 3, 1) := by decide +kernel
theorem dTE_init_21 : decode cTE_init 21 = .ok (.putfield 22, 3) := by decide +kernel
theorem dTE_init_24 : decode cTE_init 24 = .ok (.return_, 1) := by decide +kernel
theorem dTE_getKey_0 : decode cTE_getKey 0 = .ok (.aload_n 0, 1) := by decide +kernel
theorem dTE_getKey_1 : decode cTE_getKey 1 = .ok (.getfield 15, 3) := by decide +kernel
theorem dTE_getKey_4 : decode cTE_getKey 4 = .ok (.areturn, 1) := by decide +kernel
theorem dTE_getValue_0 : decode cTE_getValue 0 = .ok (.aload_n 0, 1) := by decide +kernel
theorem dTE_getValue_1 : decode cTE_getValue 1 = .ok (.getfield 19, 3) := by decide +kernel
theorem dTE_getValue_4 : decode cTE_getValue 4 = .ok (.areturn, 1) := by decide +kernel
theorem dPI_init_0 : decode cPI_init 0 = .ok (.aload_n 0, 1) := by decide +kernel
theorem dPI_init_1 : decode cPI_init 1 = .ok (.aload_n 1, 1) := by decide +kernel
theorem dPI_init_2 : decode cPI_init 2 = .ok (.putfield 1, 3) := by decide +kernel
theorem dPI_init_5 : decode cPI_init 5 = .ok (.aload_n 0, 1) := by decide +kernel
theorem dPI_init_6 : decode cPI_init 6 = .ok (.invokespecial 7, 3) := by decide +kernel
theorem dPI_init_9 : decode cPI_init 9 = .ok (.aload_n 0, 1) := by decide +kernel
theorem dPI_init_10 : decode cPI_init 10 = .ok (.aload_n 1, 1) := by decide +kernel
theorem dPI_init_11 : decode cPI_init 11 = .ok (.getfield 13, 3) := by decide +kernel
theorem dPI_init_14 : decode cPI_init 14 = .ok (.putfield 19, 3) := by decide +kernel
theorem dPI_init_17 : decode cPI_init 17 = .ok (.aload_n 0, 1) := by decide +kernel
theorem dPI_init_18 : decode cPI_init 18 = .ok (.aconst_null, 1) := by decide +kernel
theorem dPI_init_19 : decode cPI_init 19 = .ok (.putfield 22, 3) := by decide +kernel
theorem dPI_init_22 : decode cPI_init 22 = .ok (.aload_n 0, 1) := by decide +kernel
theorem dPI_init_23 : decode cPI_init 23 = .ok (.aload_n 2, 1) := by decide +kernel
theorem dPI_init_24 : decode cPI_init 24 = .ok (.putfield 26, 3) := by decide +kernel
theorem dPI_init_27 : decode cPI_init 27 = .ok (.return_, 1) := by decide +kernel
theorem dPI_hasNext_0 : decode cPI_hasNext 0 = .ok (.aload_n 0, 1) := by decide +kernel
theorem dPI_hasNext_1 : decode cPI_hasNext 1 = .ok (.getfield 26, 3) := by decide +kernel
theorem dPI_hasNext_4 : decode cPI_hasNext 4 = .ok (.ifnull 7, 3) := by decide +kernel
theorem dPI_hasNext_7 : decode cPI_hasNext 7 = .ok (.iconst 1, 1) := by decide +kernel
theorem dPI_hasNext_8 : decode cPI_hasNext 8 = .ok (.goto 4, 3) := by decide +kernel
theorem dPI_hasNext_11 : decode cPI_hasNext 11 = .ok (.iconst 0, 1) := by decide +kernel
theorem dPI_hasNext_12 : decode cPI_hasNext 12 = .ok (.ireturn, 1) := by decide +kernel
theorem dPI_nextEntry_0 : decode cPI_nextEntry 0 = .ok (.aload_n 0, 1) := by decide +kernel
theorem dPI_nextEntry_1 : decode cPI_nextEntry 1 = .ok (.getfield 26, 3) := by decide +kernel
theorem dPI_nextEntry_4 : decode cPI_nextEntry 4 = .ok (.astore_n 1, 1) := by decide +kernel
theorem dPI_nextEntry_5 : decode cPI_nextEntry 5 = .ok (.aload_n 1, 1) := by decide +kernel
theorem dPI_nextEntry_6 : decode cPI_nextEntry 6 = .ok (.ifnonnull 11, 3) := by decide +kernel
theorem dPI_nextEntry_9 : decode cPI_nextEntry 9 = .ok (.new 29, 3) := by decide +kernel
theorem dPI_nextEntry_12 : decode cPI_nextEntry 12 = .ok (.dup, 1) := by decide +kernel
theorem dPI_nextEntry_13 : decode cPI_nextEntry 13 = .ok (.invokespecial 31, 3) := by decide +kernel
theorem dPI_nextEntry_16 : decode cPI_nextEntry 16 = .ok (.athrow, 1) := by decide +kernel
theorem dPI_nextEntry_17 : decode cPI_nextEntry 17 = .ok (.aload_n 0, 1) := by decide +kernel
theorem dPI_nextEntry_18 : decode cPI_nextEntry 18 = .ok (.getfield 1, 3) := by decide +kernel
theorem dPI_nextEntry_21 : decode cPI_nextEntry 21 = .ok (.getfield 13, 3) := by decide +kernel
theorem dPI_nextEntry_24 : decode cPI_nextEntry 24 = .ok (.aload_n 0, 1) := by decide +kernel
theorem dPI_nextEntry_25 : decode cPI_nextEntry 25 = .ok (.getfield 19, 3) := by decide +kernel
theorem dPI_nextEntry_28 : decode cPI_nextEntry 28 = .ok (.if_icmp .eq 11, 3) := by decide +kernel
theorem dPI_nextEntry_31 : decode cPI_nextEntry 31 = .ok (.new 32, 3) := by decide +kernel
theorem dPI_nextEntry_34 : decode cPI_nextEntry 34 = .ok (.dup, 1) := by decide +kernel
theorem dPI_nextEntry_35 : decode cPI_nextEntry 35 = .ok (.invokespecial 34, 3) := by decide +kernel
theorem dPI_nextEntry_38 : decode cPI_nextEntry 38 = .ok (.athrow, 1) := by decide +kernel
theorem dPI_nextEntry_39 : decode cPI_nextEntry 39 = .ok (.aload_n 0, 1) := by decide +kernel
theorem dPI_nextEntry_40 : decode cPI_nextEntry 40 = .ok (.aload_n 1, 1) := by decide +kernel
theorem dPI_nextEntry_41 : decode cPI_nextEntry 41 = .ok (.invokestatic 35, 3) := by decide +kernel
theorem dPI_nextEntry_44 : decode cPI_nextEntry 44 = .ok (.putfield 26, 3) := by decide +kernel
theorem dPI_nextEntry_47 : decode cPI_nextEntry 47 = .ok (.aload_n 0, 1) := by decide +kernel
theorem dPI_nextEntry_48 : decode cPI_nextEntry 48 = .ok (.aload_n 1, 1) := by decide +kernel
theorem dPI_nextEntry_49 : decode cPI_nextEntry 49 = .ok (.putfield 22, 3) := by decide +kernel
theorem dPI_nextEntry_52 : decode cPI_nextEntry 52 = .ok (.aload_n 1, 1) := by decide +kernel
theorem dPI_nextEntry_53 : decode cPI_nextEntry 53 = .ok (.areturn, 1) := by decide +kernel
theorem dTI_init_0 : decode cTI_init 0 = .ok (.aload_n 0, 1) := by decide +kernel
theorem dTI_init_1 : decode cTI_init 1 = .ok (.aload_n 1, 1) := by decide +kernel
theorem dTI_init_2 : decode cTI_init 2 = .ok (.aload_n 2, 1) := by decide +kernel
theorem dTI_init_3 : decode cTI_init 3 = .ok (.invokespecial 1, 3) := by decide +kernel
theorem dTI_init_6 : decode cTI_init 6 = .ok (.return_, 1) := by decide +kernel
theorem dTI_next_0 : decode cTI_next 0 = .ok (.aload_n 0, 1) := by decide +kernel
theorem dTI_next_1 : decode cTI_next 1 = .ok (.invokevirtual 7, 3) := by decide +kernel
theorem dTI_next_4 : decode cTI_next 4 = .ok (.getfield 13, 3) := by decide +kernel
theorem dTI_next_7 : decode cTI_next 7 = .ok (.areturn, 1) := by decide +kernel
theorem dTV_init_0 : decode cTV_init 0 = .ok (.aload_n 0, 1) := by decide +kernel
theorem dTV_init_1 : decode cTV_init 1 = .ok (.aload_n 1, 1) := by decide +kernel
theorem dTV_init_2 : decode cTV_init 2 = .ok (.putfield 1, 3) := by decide +kernel
theorem dTV_init_5 : decode cTV_init 5 = .ok (.aload_n 0, 1) := by decide +kernel
theorem dTV_init_6 : decode cTV_init 6 = .ok (.invokespecial 7, 3) := by decide +kernel
theorem dTV_init_9 : decode cTV_init 9 = .ok (.return_, 1) := by decide +kernel
theorem dTV_iterator_0 : decode cTV_iterator 0 = .ok (.new 13, 3) := by decide +kernel
theorem dTV_iterator_3 : decode cTV_iterator 3 = .ok (.dup, 1) := by decide +kernel
theorem dTV_iterator_4 : decode cTV_iterator 4 = .ok (.aload_n 0, 1) := by decide +kernel
theorem dTV_iterator_5 : decode cTV_iterator 5 = .ok (.getfield 1, 3) := by decide +kernel
theorem dTV_iterator_8 : decode cTV_iterator 8 = .ok (.aload_n 0, 1) := by decide +kernel
theorem dTV_iterator_9 : decode cTV_iterator 9 = .ok (.getfield 1, 3) := by decide +kernel
theorem dTV_iterator_12 : decode cTV_iterator 12 = .ok (.invokevirtual 15, 3) := by decide +kernel
theorem dTV_iterator_15 : decode cTV_iterator 15 = .ok (.invokespecial 21, 3) := by decide +kernel
theorem dTV_iterator_18 : decode cTV_iterator 18 = .ok (.areturn, 1) := by decide +kernel
theorem dTM_init_0 : decode cTM_init 0 = .ok (.aload_n 0, 1) := by decide +kernel
theorem dTM_init_1 : decode cTM_init 1 = .ok (.invokespecial 1, 3) := by decide +kernel
theorem dTM_init_4 : decode cTM_init 4 = .ok (.aload_n 0, 1) := by decide +kernel
theorem dTM_init_5 : decode cTM_init 5 = .ok (.iconst 0, 1) := by decide +kernel
theorem dTM_init_6 : decode cTM_init 6 = .ok (.putfield 7, 3) := by decide +kernel
theorem dTM_init_9 : decode cTM_init 9 = .ok (.aload_n 0, 1) := by decide +kernel
theorem dTM_init_10 : decode cTM_init 10 = .ok (.iconst 0, 1) := by decide +kernel
theorem dTM_init_11 : decode cTM_init 11 = .ok (.putfield 13, 3) := by decide +kernel
theorem dTM_init_14 : decode cTM_init 14 = .ok (.aload_n 0, 1) := by decide +kernel
theorem dTM_init_15 : decode cTM_init 15 = .ok (.aconst_null, 1) := by decide +kernel
theorem dTM_init_16 : decode cTM_init 16 = .ok (.putfield 16, 3) := by decide +kernel
theorem dTM_init_19 : decode cTM_init 19 = .ok (.return_, 1) := by decide +kernel
theorem dTM_containsKey_0 : decode cTM_containsKey 0 = .ok (.aload_n 0, 1) := by decide +kernel
theorem dTM_containsKey_1 : decode cTM_containsKey 1 = .ok (.aload_n 1, 1) := by decide +kernel
theorem dTM_containsKey_2 : decode cTM_containsKey 2 = .ok (.invokevirtual 50, 3) := by decide +kernel
theorem dTM_containsKey_5 : decode cTM_containsKey 5 = .ok (.ifnull 7, 3) := by decide +kernel
theorem dTM_containsKey_8 : decode cTM_containsKey 8 = .ok (.iconst 1, 1) := by decide +kernel
theorem dTM_containsKey_9 : decode cTM_containsKey 9 = .ok (.goto 4, 3) := by decide +kernel
theorem dTM_containsKey_12 : decode cTM_containsKey 12 = .ok (.iconst 0, 1) := by decide +kernel
theorem dTM_containsKey_13 : decode cTM_containsKey 13 = .ok (.ireturn, 1) := by decide +kernel
theorem dTM_get_0 : decode cTM_get 0 = .ok (.aload_n 0, 1) := by decide +kernel
theorem dTM_get_1 : decode cTM_get 1 = .ok (.aload_n 1, 1) := by decide +kernel
theorem dTM_get_2 : decode cTM_get 2 = .ok (.invokevirtual 50, 3) := by decide +kernel
theorem dTM_get_5 : decode cTM_get 5 = .ok (.astore_n 2, 1) := by decide +kernel
theorem dTM_get_6 : decode cTM_get 6 = .ok (.aload_n 2, 1) := by decide +kernel
theorem dTM_get_7 : decode cTM_get 7 = .ok (.ifnonnull 7, 3) := by decide +kernel
theorem dTM_get_10 : decode cTM_get 10 = .ok (.aconst_null, 1) := by decide +kernel
theorem dTM_get_11 : decode cTM_get 11 = .ok (.goto 7, 3) := by decide +kernel
theorem dTM_get_14 : decode cTM_get 14 = .ok (.aload_n 2, 1) := by decide +kernel
theorem dTM_get_15 : decode cTM_get 15 = .ok (.getfield 58, 3) := by decide +kernel
theorem dTM_get_18 : decode cTM_get 18 = .ok (.areturn, 1) := by decide +kernel
theorem dTM_getEntry_0 : decode cTM_getEntry 0 = .ok (.aload_n 0, 1) := by decide +kernel
theorem dTM_getEntry_1 : decode cTM_getEntry 1 = .ok (.getfield 16, 3) := by decide +kernel
theorem dTM_getEntry_4 : decode cTM_getEntry 4 = .ok (.ifnull 9, 3) := by decide +kernel
theorem dTM_getEntry_7 : decode cTM_getEntry 7 = .ok (.aload_n 0, 1) := by decide +kernel
theorem dTM_getEntry_8 : decode cTM_getEntry 8 = .ok (.aload_n 1, 1) := by decide +kernel
theorem dTM_getEntry_9 : decode cTM_getEntry 9 = .ok (.invokevirtual 92, 3) := by decide +kernel
theorem dTM_getEntry_12 : decode cTM_getEntry 12 = .ok (.areturn, 1) := by decide +kernel
theorem dTM_getEntry_13 : decode cTM_getEntry 13 = .ok (.aload_n 1, 1) := by decide +kernel
theorem dTM_getEntry_14 : decode cTM_getEntry 14 = .ok (.invokestatic 95, 3) := by decide +kernel
theorem dTM_getEntry_17 : decode cTM_getEntry 17 = .ok (.pop, 1) := by decide +kernel
theorem dTM_getEntry_18 : decode cTM_getEntry 18 = .ok (.aload_n 1, 1) := by decide +kernel
theorem dTM_getEntry_19 : decode cTM_getEntry 19 = .ok (.checkcast 99, 3) := by decide +kernel
theorem dTM_getEntry_22 : decode cTM_getEntry 22 = .ok (.astore_n 2, 1) := by decide +kernel
theorem dTM_getEntry_23 : decode cTM_getEntry 23 = .ok (.aload_n 0, 1) := by decide +kernel
theorem dTM_getEntry_24 : decode cTM_getEntry 24 = .ok (.getfield 101, 3) := by decide +kernel
theorem dTM_getEntry_27 : decode cTM_getEntry 27 = .ok (.astore_n 3, 1) := by decide +kernel
theorem dTM_getEntry_28 : decode cTM_getEntry 28 = .ok (.aload_n 3, 1) := by decide +kernel
theorem dTM_getEntry_29 : decode cTM_getEntry 29 = .ok (.ifnull 46, 3) := by decide +kernel
theorem dTM_getEntry_32 : decode cTM_getEntry 32 = .ok (.aload_n 2, 1) := by decide +kernel
theorem dTM_getEntry_33 : decode cTM_getEntry 33 = .ok (.aload_n 3, 1) := by decide +kernel
theorem dTM_getEntry_34 : decode cTM_getEntry 34 = .ok (.getfield 105, 3) := by decide +kernel
theorem dTM_getEntry_37 : decode cTM_getEntry 37 = .ok (.invokeinterface 107 2, 5) := by decide +kernel
theorem dTM_getEntry_42 : decode cTM_getEntry 42 = .ok (.istore 4, 2) := by decide +kernel
theorem dTM_getEntry_44 : decode cTM_getEntry 44 = .ok (.iload 4, 2) := by decide +kernel
theorem dTM_getEntry_46 : decode cTM_getEntry 46 = .ok (.ifCond .ge 11, 3) := by decide +kernel
theorem dTM_getEntry_49 : decode cTM_getEntry 49 = .ok (.aload_n 3, 1) := by decide +kernel
theorem dTM_getEntry_50 : decode cTM_getEntry 50 = .ok (.getfield 111, 3) := by decide +kernel
theorem dTM_getEntry_53 : decode cTM_getEntry 53 = .ok (.astore_n 3, 1) := by decide +kernel
theorem dTM_getEntry_54 : decode cTM_getEntry 54 = .ok (.goto 18, 3) := by decide +kernel
theorem dTM_getEntry_57 : decode cTM_getEntry 57 = .ok (.iload 4, 2) := by decide +kernel
theorem dTM_getEntry_59 : decode cTM_getEntry 59 = .ok (.ifCond .le 11, 3) := by decide +kernel
theorem dTM_getEntry_62 : decode cTM_getEntry 62 = .ok (.aload_n 3, 1) := by decide +kernel
theorem dTM_getEntry_63 : decode cTM_getEntry 63 = .ok (.getfield 114, 3) := by decide +kernel
theorem dTM_getEntry_66 : decode cTM_getEntry 66 = .ok (.astore_n 3, 1) := by decide +kernel
theorem dTM_getEntry_67 : decode cTM_getEntry 67 = .ok (.goto 5, 3) := by decide +kernel
theorem dTM_getEntry_70 : decode cTM_getEntry 70 = .ok (.aload_n 3, 1) := by decide +kernel
theorem dTM_getEntry_71 : decode cTM_getEntry 71 = .ok (.areturn, 1) := by decide +kernel
theorem dTM_getEntry_72 : decode cTM_getEntry 72 = .ok (.goto (-44), 3) := by decide +kernel
theorem dTM_getEntry_75 : decode cTM_getEntry 75 = .ok (.aconst_null, 1) := by decide +kernel
theorem dTM_getEntry_76 : decode cTM_getEntry 76 = .ok (.areturn, 1) := by decide +kernel
theorem dTM_put_0 : decode cTM_put 0 = .ok (.aload_n 0, 1) := by decide +kernel
theorem dTM_put_1 : decode cTM_put 1 = .ok (.aload_n 1, 1) := by decide +kernel
theorem dTM_put_2 : decode cTM_put 2 = .ok (.aload_n 2, 1) := by decide +kernel
theorem dTM_put_3 : decode cTM_put 3 = .ok (.iconst 1, 1) := by decide +kernel
theorem dTM_put_4 : decode cTM_put 4 = .ok (.invokevirtual 127, 3) := by decide +kernel
theorem dTM_put_7 : decode cTM_put 7 = .ok (.areturn, 1) := by decide +kernel
theorem dTM_addEntry_0 : decode cTM_addEntry 0 = .ok (.new 59, 3) := by decide +kernel
theorem dTM_addEntry_3 : decode cTM_addEntry 3 = .ok (.dup, 1) := by decide +kernel
theorem dTM_addEntry_4 : decode cTM_addEntry 4 = .ok (.aload_n 1, 1) := by decide +kernel
theorem dTM_addEntry_5 : decode cTM_addEntry 5 = .ok (.aload_n 2, 1) := by decide +kernel
theorem dTM_addEntry_6 : decode cTM_addEntry 6 = .ok (.aload_n 3, 1) := by decide +kernel
theorem dTM_addEntry_7 : decode cTM_addEntry 7 = .ok (.invokespecial 167, 3) := by decide +kernel
theorem dTM_addEntry_10 : decode cTM_addEntry 10 = .ok (.astore 5, 2) := by decide +kernel
theorem dTM_addEntry_12 : decode cTM_addEntry 12 = .ok (.iload 4, 2) := by decide +kernel
theorem dTM_addEntry_14 : decode cTM_addEntry 14 = .ok (.ifCond .eq 12, 3) := by decide +kernel
theorem dTM_addEntry_17 : decode cTM_addEntry 17 = .ok (.aload_n 3, 1) := by decide +kernel
theorem dTM_addEntry_18 : decode cTM_addEntry 18 = .ok (.aload 5, 2) := by decide +kernel
theorem dTM_addEntry_20 : decode cTM_addEntry 20 = .ok (.putfield 111, 3) := by decide +kernel
theorem dTM_addEntry_23 : decode cTM_addEntry 23 = .ok (.goto 9, 3) := by decide +kernel
theorem dTM_addEntry_26 : decode cTM_addEntry 26 = .ok (.aload_n 3, 1) := by decide +kernel
theorem dTM_addEntry_27 : decode cTM_addEntry 27 = .ok (.aload 5, 2) := by decide +kernel
theorem dTM_addEntry_29 : decode cTM_addEntry 29 = .ok (.putfield 114, 3) := by decide +kernel
theorem dTM_addEntry_32 : decode cTM_addEntry 32 = .ok (.aload_n 0, 1) := by decide +kernel
theorem dTM_addEntry_33 : decode cTM_addEntry 33 = .ok (.aload 5, 2) := by decide +kernel
theorem dTM_addEntry_35 : decode cTM_addEntry 35 = .ok (.invokevirtual 170, 3) := by decide +kernel
theorem dTM_addEntry_38 : decode cTM_addEntry 38 = .ok (.aload_n 0, 1) := by decide +kernel
theorem dTM_addEntry_39 : decode cTM_addEntry 39 = .ok (.dup, 1) := by decide +kernel
theorem dTM_addEntry_40 : decode cTM_addEntry 40 = .ok (.getfield 7, 3) := by decide +kernel
theorem dTM_addEntry_43 : decode cTM_addEntry 43 = .ok (.iconst 1, 1) := by decide +kernel
theorem dTM_addEntry_44 : decode cTM_addEntry 44 = .ok (.iadd, 1) := by decide +kernel
theorem dTM_addEntry_45 : decode cTM_addEntry 45 = .ok (.putfield 7, 3) := by decide +kernel
theorem dTM_addEntry_48 : decode cTM_addEntry 48 = .ok (.aload_n 0, 1) := by decide +kernel
theorem dTM_addEntry_49 : decode cTM_addEntry 49 = .ok (.dup, 1) := by decide +kernel
theorem dTM_addEntry_50 : decode cTM_addEntry 50 = .ok (.getfield 13, 3) := by decide +kernel
theorem dTM_addEntry_53 : decode cTM_addEntry 53 = .ok (.iconst 1, 1) := by decide +kernel
theorem dTM_addEntry_54 : decode cTM_addEntry 54 = .ok (.iadd, 1) := by decide +kernel
theorem dTM_addEntry_55 : decode cTM_addEntry 55 = .ok (.putfield 13, 3) := by decide +kernel
theorem dTM_addEntry_58 : decode cTM_addEntry 58 = .ok (.return_, 1) := by decide +kernel
theorem dTM_addEntryToEmptyMap_0 : decode cTM_addEntryToEmptyMap 0 = .ok (.aload_n 0, 1) := by decide +kernel
theorem dTM_addEntryToEmptyMap_1 : decode cTM_addEntryToEmptyMap 1 = .ok (.aload_n 1, 1) := by decide +kernel
theorem dTM_addEntryToEmptyMap_2 : decode cTM_addEntryToEmptyMap 2 = .ok (.aload_n 1, 1) := by decide +kernel
theorem dTM_addEntryToEmptyMap_3 : decode cTM_addEntryToEmptyMap 3 = .ok (.invokevirtual 123, 3) := by decide +kernel
theorem dTM_addEntryToEmptyMap_6 : decode cTM_addEntryToEmptyMap 6 = .ok (.pop, 1) := by decide +kernel
theorem dTM_addEntryToEmptyMap_7 : decode cTM_addEntryToEmptyMap 7 = .ok (.aload_n 0, 1) := by decide +kernel
theorem dTM_addEntryToEmptyMap_8 : decode cTM_addEntryToEmptyMap 8 = .ok (.new 59, 3) := by decide +kernel
theorem dTM_addEntryToEmptyMap_11 : decode cTM_addEntryToEmptyMap 11 = .ok (.dup, 1) := by decide +kernel
theorem dTM_addEntryToEmptyMap_12 : decode cTM_addEntryToEmptyMap 12 = .ok (.aload_n 1, 1) := by decide +kernel
theorem dTM_addEntryToEmptyMap_13 : decode cTM_addEntryToEmptyMap 13 = .ok (.aload_n 2, 1) := by decide +kernel
theorem dTM_addEntryToEmptyMap_14 : decode cTM_addEntryToEmptyMap 14 = .ok (.aconst_null, 1) := by decide +kernel
theorem dTM_addEntryToEmptyMap_15 : decode cTM_addEntryToEmptyMap 15 = .ok (.invokespecial 167, 3) := by decide +kernel
theorem dTM_addEntryToEmptyMap_18 : decode cTM_addEntryToEmptyMap 18 = .ok (.putfield 101, 3) := by decide +kernel
theorem dTM_addEntryToEmptyMap_21 : decode cTM_addEntryToEmptyMap 21 = .ok (.aload_n 0, 1) := by decide +kernel
theorem dTM_addEntryToEmptyMap_22 : decode cTM_addEntryToEmptyMap 22 = .ok (.iconst 1, 1) := by decide +kernel
theorem dTM_addEntryToEmptyMap_23 : decode cTM_addEntryToEmptyMap 23 = .ok (.putfield 7, 3) := by decide +kernel
theorem dTM_addEntryToEmptyMap_26 : decode cTM_addEntryToEmptyMap 26 = .ok (.aload_n 0, 1) := by decide +kernel
theorem dTM_addEntryToEmptyMap_27 : decode cTM_addEntryToEmptyMap 27 = .ok (.dup, 1) := by decide +kernel
theorem dTM_addEntryToEmptyMap_28 : decode cTM_addEntryToEmptyMap 28 = .ok (.getfield 13, 3) := by decide +kernel
theorem dTM_addEntryToEmptyMap_31 : decode cTM_addEntryToEmptyMap 31 = .ok (.iconst 1, 1) := by decide +kernel
theorem dTM_addEntryToEmptyMap_32 : decode cTM_addEntryToEmptyMap 32 = .ok (.iadd, 1) := by decide +kernel
theorem dTM_addEntryToEmptyMap_33 : decode cTM_addEntryToEmptyMap 33 = .ok (.putfield 13, 3) := by decide +kernel
theorem dTM_addEntryToEmptyMap_36 : decode cTM_addEntryToEmptyMap 36 = .ok (.return_, 1) := by decide +kernel
theorem dTM_put__0 : decode cTM_put_ 0 = .ok (.aload_n 0, 1) := by decide +kernel
theorem dTM_put__1 : decode cTM_put_ 1 = .ok (.getfield 101, 3) := by decide +kernel
theorem dTM_put__4 : decode cTM_put_ 4 = .ok (.astore 4, 2) := by decide +kernel
theorem dTM_put__6 : decode cTM_put_ 6 = .ok (.aload 4, 2) := by decide +kernel
theorem dTM_put__8 : decode cTM_put_ 8 = .ok (.ifnonnull 11, 3) := by decide +kernel
theorem dTM_put__11 : decode cTM_put_ 11 = .ok (.aload_n 0, 1) := by decide +kernel
theorem dTM_put__12 : decode cTM_put_ 12 = .ok (.aload_n 1, 1) := by decide +kernel
theorem dTM_put__13 : decode cTM_put_ 13 = .ok (.aload_n 2, 1) := by decide +kernel
theorem dTM_put__14 : decode cTM_put_ 14 = .ok (.invokevirtual 135, 3) := by decide +kernel
theorem dTM_put__17 : decode cTM_put_ 17 = .ok (.aconst_null, 1) := by decide +kernel
theorem dTM_put__18 : decode cTM_put_ 18 = .ok (.areturn, 1) := by decide +kernel
theorem dTM_put__19 : decode cTM_put_ 19 = .ok (.aload_n 0, 1) := by decide +kernel
theorem dTM_put__20 : decode cTM_put_ 20 = .ok (.getfield 16, 3) := by decide +kernel
theorem dTM_put__23 : decode cTM_put_ 23 = .ok (.astore 7, 2) := by decide +kernel
theorem dTM_put__25 : decode cTM_put_ 25 = .ok (.aload 7, 2) := by decide +kernel
theorem dTM_put__27 : decode cTM_put_ 27 = .ok (.ifnull 85, 3) := by decide +kernel
theorem dTM_put__30 : decode cTM_put_ 30 = .ok (.aload 4, 2) := by decide +kernel
theorem dTM_put__32 : decode cTM_put_ 32 = .ok (.astore 6, 2) := by decide +kernel
theorem dTM_put__34 : decode cTM_put_ 34 = .ok (.aload 7, 2) := by decide +kernel
theorem dTM_put__36 : decode cTM_put_ 36 = .ok (.aload_n 1, 1) := by decide +kernel
theorem dTM_put__37 : decode cTM_put_ 37 = .ok (.aload 4, 2) := by decide +kernel
theorem dTM_put__39 : decode cTM_put_ 39 = .ok (.getfield 105, 3) := by decide +kernel
theorem dTM_put__42 : decode cTM_put_ 42 = .ok (.invokeinterface 117 3, 5) := by decide +kernel
theorem dTM_put__47 : decode cTM_put_ 47 = .ok (.istore 5, 2) := by decide +kernel
theorem dTM_put__49 : decode cTM_put_ 49 = .ok (.iload 5, 2) := by decide +kernel
theorem dTM_put__51 : decode cTM_put_ 51 = .ok (.ifCond .ge 13, 3) := by decide +kernel
theorem dTM_put__54 : decode cTM_put_ 54 = .ok (.aload 4, 2) := by decide +kernel
theorem dTM_put__56 : decode cTM_put_ 56 = .ok (.getfield 111, 3) := by decide +kernel
theorem dTM_put__59 : decode cTM_put_ 59 = .ok (.astore 4, 2) := by decide +kernel
theorem dTM_put__61 : decode cTM_put_ 61 = .ok (.goto 43, 3) := by decide +kernel
theorem dTM_put__64 : decode cTM_put_ 64 = .ok (.iload 5, 2) := by decide +kernel
theorem dTM_put__66 : decode cTM_put_ 66 = .ok (.ifCond .le 13, 3) := by decide +kernel
theorem dTM_put__69 : decode cTM_put_ 69 = .ok (.aload 4, 2) := by decide +kernel
theorem dTM_put__71 : decode cTM_put_ 71 = .ok (.getfield 114, 3) := by decide +kernel
theorem dTM_put__74 : decode cTM_put_ 74 = .ok (.astore 4, 2) := by decide +kernel
theorem dTM_put__76 : decode cTM_put_ 76 = .ok (.goto 28, 3) := by decide +kernel
theorem dTM_put__79 : decode cTM_put_ 79 = .ok (.aload 4, 2) := by decide +kernel
theorem dTM_put__81 : decode cTM_put_ 81 = .ok (.getfield 58, 3) := by decide +kernel
theorem dTM_put__84 : decode cTM_put_ 84 = .ok (.astore 8, 2) := by decide +kernel
theorem dTM_put__86 : decode cTM_put_ 86 = .ok (.iload_n 3, 1) := by decide +kernel
theorem dTM_put__87 : decode cTM_put_ 87 = .ok (.ifCond .ne 8, 3) := by decide +kernel
theorem dTM_put__90 : decode cTM_put_ 90 = .ok (.aload 8, 2) := by decide +kernel
theorem dTM_put__92 : decode cTM_put_ 92 = .ok (.ifnonnull 9, 3) := by decide +kernel
theorem dTM_put__95 : decode cTM_put_ 95 = .ok (.aload 4, 2) := by decide +kernel
theorem dTM_put__97 : decode cTM_put_ 97 = .ok (.aload_n 2, 1) := by decide +kernel
theorem dTM_put__98 : decode cTM_put_ 98 = .ok (.putfield 58, 3) := by decide +kernel
theorem dTM_put__101 : decode cTM_put_ 101 = .ok (.aload 8, 2) := by decide +kernel
theorem dTM_put__103 : decode cTM_put_ 103 = .ok (.areturn, 1) := by decide +kernel
theorem dTM_put__104 : decode cTM_put_ 104 = .ok (.aload 4, 2) := by decide +kernel
theorem dTM_put__106 : decode cTM_put_ 106 = .ok (.ifnonnull (-76), 3) := by decide +kernel
theorem dTM_put__109 : decode cTM_put_ 109 = .ok (.goto 92, 3) := by decide +kernel
theorem dTM_put__112 : decode cTM_put_ 112 = .ok (.aload_n 1, 1) := by decide +kernel
theorem dTM_put__113 : decode cTM_put_ 113 = .ok (.invokestatic 95, 3) := by decide +kernel
theorem dTM_put__116 : decode cTM_put_ 116 = .ok (.pop, 1) := by decide +kernel
theorem dTM_put__117 : decode cTM_put_ 117 = .ok (.aload_n 1, 1) := by decide +kernel
theorem dTM_put__118 : decode cTM_put_ 118 = .ok (.checkcast 99, 3) := by decide +kernel
theorem dTM_put__121 : decode cTM_put_ 121 = .ok (.astore 8, 2) := by decide +kernel
theorem dTM_put__123 : decode cTM_put_ 123 = .ok (.aload 4, 2) := by decide +kernel
theorem dTM_put__125 : decode cTM_put_ 125 = .ok (.astore 6, 2) := by decide +kernel
theorem dTM_put__127 : decode cTM_put_ 127 = .ok (.aload 8, 2) := by decide +kernel
theorem dTM_put__129 : decode cTM_put_ 129 = .ok (.aload 4, 2) := by decide +kernel
theorem dTM_put__131 : decode cTM_put_ 131 = .ok (.getfield 105, 3) := by decide +kernel
theorem dTM_put__134 : decode cTM_put_ 134 = .ok (.invokeinterface 107 2, 5) := by decide +kernel
theorem dTM_put__139 : decode cTM_put_ 139 = .ok (.istore 5, 2) := by decide +kernel
theorem dTM_put__141 : decode cTM_put_ 141 = .ok (.iload 5, 2) := by decide +kernel
theorem dTM_put__143 : decode cTM_put_ 143 = .ok (.ifCond .ge 13, 3) := by decide +kernel
theorem dTM_put__146 : decode cTM_put_ 146 = .ok (.aload 4, 2) := by decide +kernel
theorem dTM_put__148 : decode cTM_put_ 148 = .ok (.getfield 111, 3) := by decide +kernel
theorem dTM_put__151 : decode cTM_put_ 151 = .ok (.astore 4, 2) := by decide +kernel
theorem dTM_put__153 : decode cTM_put_ 153 = .ok (.goto 43, 3) := by decide +kernel
theorem dTM_put__156 : decode cTM_put_ 156 = .ok (.iload 5, 2) := by decide +kernel
theorem dTM_put__158 : decode cTM_put_ 158 = .ok (.ifCond .le 13, 3) := by decide +kernel
theorem dTM_put__161 : decode cTM_put_ 161 = .ok (.aload 4, 2) := by decide +kernel
theorem dTM_put__163 : decode cTM_put_ 163 = .ok (.getfield 114, 3) := by decide +kernel
theorem dTM_put__166 : decode cTM_put_ 166 = .ok (.astore 4, 2) := by decide +kernel
theorem dTM_put__168 : decode cTM_put_ 168 = .ok (.goto 28, 3) := by decide +kernel
theorem dTM_put__171 : decode cTM_put_ 171 = .ok (.aload 4, 2) := by decide +kernel
theorem dTM_put__173 : decode cTM_put_ 173 = .ok (.getfield 58, 3) := by decide +kernel
theorem dTM_put__176 : decode cTM_put_ 176 = .ok (.astore 9, 2) := by decide +kernel
theorem dTM_put__178 : decode cTM_put_ 178 = .ok (.iload_n 3, 1) := by decide +kernel
theorem dTM_put__179 : decode cTM_put_ 179 = .ok (.ifCond .ne 8, 3) := by decide +kernel
theorem dTM_put__182 : decode cTM_put_ 182 = .ok (.aload 9, 2) := by decide +kernel
theorem dTM_put__184 : decode cTM_put_ 184 = .ok (.ifnonnull 9, 3) := by decide +kernel
theorem dTM_put__187 : decode cTM_put_ 187 = .ok (.aload 4, 2) := by decide +kernel
theorem dTM_put__189 : decode cTM_put_ 189 = .ok (.aload_n 2, 1) := by decide +kernel
theorem dTM_put__190 : decode cTM_put_ 190 = .ok (.putfield 58, 3) := by decide +kernel
theorem dTM_put__193 : decode cTM_put_ 193 = .ok (.aload 9, 2) := by decide +kernel
theorem dTM_put__195 : decode cTM_put_ 195 = .ok (.areturn, 1) := by decide +kernel
theorem dTM_put__196 : decode cTM_put_ 196 = .ok (.aload 4, 2) := by decide +kernel
theorem dTM_put__198 : decode cTM_put_ 198 = .ok (.ifnonnull (-75), 3) := by decide +kernel
theorem dTM_put__201 : decode cTM_put_ 201 = .ok (.aload_n 0, 1) := by decide +kernel
theorem dTM_put__202 : decode cTM_put_ 202 = .ok (.aload_n 1, 1) := by decide +kernel
theorem dTM_put__203 : decode cTM_put_ 203 = .ok (.aload_n 2, 1) := by decide +kernel
theorem dTM_put__204 : decode cTM_put_ 204 = .ok (.aload 6, 2) := by decide +kernel
theorem dTM_put__206 : decode cTM_put_ 206 = .ok (.iload 5, 2) := by decide +kernel
theorem dTM_put__208 : decode cTM_put_ 208 = .ok (.ifCond .ge 7, 3) := by decide +kernel
theorem dTM_put__211 : decode cTM_put_ 211 = .ok (.iconst 1, 1) := by decide +kernel
theorem dTM_put__212 : decode cTM_put_ 212 = .ok (.goto 4, 3) := by decide +kernel
theorem dTM_put__215 : decode cTM_put_ 215 = .ok (.iconst 0, 1) := by decide +kernel
theorem dTM_put__216 : decode cTM_put_ 216 = .ok (.invokevirtual 139, 3) := by decide +kernel
theorem dTM_put__219 : decode cTM_put_ 219 = .ok (.aconst_null, 1) := by decide +kernel
theorem dTM_put__220 : decode cTM_put_ 220 = .ok (.areturn, 1) := by decide +kernel
theorem dTM_remove_0 : decode cTM_remove 0 = .ok (.aload_n 0, 1) := by decide +kernel
theorem dTM_remove_1 : decode cTM_remove 1 = .ok (.aload_n 1, 1) := by decide +kernel
theorem dTM_remove_2 : decode cTM_remove 2 = .ok (.invokevirtual 50, 3) := by decide +kernel
theorem dTM_remove_5 : decode cTM_remove 5 = .ok (.astore_n 2, 1) := by decide +kernel
theorem dTM_remove_6 : decode cTM_remove 6 = .ok (.aload_n 2, 1) := by decide +kernel
theorem dTM_remove_7 : decode cTM_remove 7 = .ok (.ifnonnull 5, 3) := by decide +kernel
theorem dTM_remove_10 : decode cTM_remove 10 = .ok (.aconst_null, 1) := by decide +kernel
theorem dTM_remove_11 : decode cTM_remove 11 = .ok (.areturn, 1) := by decide +kernel
theorem dTM_remove_12 : decode cTM_remove 12 = .ok (.aload_n 2, 1) := by decide +kernel
theorem dTM_remove_13 : decode cTM_remove 13 = .ok (.getfield 58, 3) := by decide +kernel
theorem dTM_remove_16 : decode cTM_remove 16 = .ok (.astore_n 3, 1) := by decide +kernel
theorem dTM_remove_17 : decode cTM_remove 17 = .ok (.aload_n 0, 1) := by decide +kernel
theorem dTM_remove_18 : decode cTM_remove 18 = .ok (.aload_n 2, 1) := by decide +kernel
theorem dTM_remove_19 : decode cTM_remove 19 = .ok (.invokevirtual 174, 3) := by decide +kernel
theorem dTM_remove_22 : decode cTM_remove 22 = .ok (.aload_n 3, 1) := by decide +kernel
theorem dTM_remove_23 : decode cTM_remove 23 = .ok (.areturn, 1) := by decide +kernel
theorem dTM_firstEntry_0 : decode cTM_firstEntry 0 = .ok (.aload_n 0, 1) := by decide +kernel
theorem dTM_firstEntry_1 : decode cTM_firstEntry 1 = .ok (.invokevirtual 54, 3) := by decide +kernel
theorem dTM_firstEntry_4 : decode cTM_firstEntry 4 = .ok (.invokestatic 200, 3) := by decide +kernel
theorem dTM_firstEntry_7 : decode cTM_firstEntry 7 = .ok (.areturn, 1) := by decide +kernel
theorem dTM_lastEntry_0 : decode cTM_lastEntry 0 = .ok (.aload_n 0, 1) := by decide +kernel
theorem dTM_lastEntry_1 : decode cTM_lastEntry 1 = .ok (.invokevirtual 76, 3) := by decide +kernel
theorem dTM_lastEntry_4 : decode cTM_lastEntry 4 = .ok (.invokestatic 200, 3) := by decide +kernel
theorem dTM_lastEntry_7 : decode cTM_lastEntry 7 = .ok (.areturn, 1) := by decide +kernel
theorem dTM_values_0 : decode cTM_values 0 = .ok (.aload_n 0, 1) := by decide +kernel
theorem dTM_values_1 : decode cTM_values 1 = .ok (.getfield 233, 3) := by decide +kernel
theorem dTM_values_4 : decode cTM_values 4 = .ok (.astore_n 1, 1) := by decide +kernel
theorem dTM_values_5 : decode cTM_values 5 = .ok (.aload_n 1, 1) := by decide +kernel
theorem dTM_values_6 : decode cTM_values 6 = .ok (.ifnonnull 17, 3) := by decide +kernel
theorem dTM_values_9 : decode cTM_values 9 = .ok (.new 237, 3) := by decide +kernel
theorem dTM_values_12 : decode cTM_values 12 = .ok (.dup, 1) := by decide +kernel
theorem dTM_values_13 : decode cTM_values 13 = .ok (.aload_n 0, 1) := by decide +kernel
theorem dTM_values_14 : decode cTM_values 14 = .ok (.invokespecial 239, 3) := by decide +kernel
theorem dTM_values_17 : decode cTM_values 17 = .ok (.astore_n 1, 1) := by decide +kernel
theorem dTM_values_18 : decode cTM_values 18 = .ok (.aload_n 0, 1) := by decide +kernel
theorem dTM_values_19 : decode cTM_values 19 = .ok (.aload_n 1, 1) := by decide +kernel
theorem dTM_values_20 : decode cTM_values 20 = .ok (.putfield 233, 3) := by decide +kernel
theorem dTM_values_23 : decode cTM_values 23 = .ok (.aload_n 1, 1) := by decide +kernel
theorem dTM_values_24 : decode cTM_values 24 = .ok (.areturn, 1) := by decide +kernel
theorem dTM_compare_0 : decode cTM_compare 0 = .ok (.aload_n 0, 1) := by decide +kernel
theorem dTM_compare_1 : decode cTM_compare 1 = .ok (.getfield 16, 3) := by decide +kernel
theorem dTM_compare_4 : decode cTM_compare 4 = .ok (.ifnonnull 16, 3) := by decide +kernel
theorem dTM_compare_7 : decode cTM_compare 7 = .ok (.aload_n 1, 1) := by decide +kernel
theorem dTM_compare_8 : decode cTM_compare 8 = .ok (.checkcast 99, 3) := by decide +kernel
theorem dTM_compare_11 : decode cTM_compare 11 = .ok (.aload_n 2, 1) := by decide +kernel
theorem dTM_compare_12 : decode cTM_compare 12 = .ok (.invokeinterface 107 2, 5) := by decide +kernel
theorem dTM_compare_17 : decode cTM_compare 17 = .ok (.goto 14, 3) := by decide +kernel
theorem dTM_compare_20 : decode cTM_compare 20 = .ok (.aload_n 0, 1) := by decide +kernel
theorem dTM_compare_21 : decode cTM_compare 21 = .ok (.getfield 16, 3) := by decide +kernel
theorem dTM_compare_24 : decode cTM_compare 24 = .ok (.aload_n 1, 1) := by decide +kernel
theorem dTM_compare_25 : decode cTM_compare 25 = .ok (.aload_n 2, 1) := by decide +kernel
theorem dTM_compare_26 : decode cTM_compare 26 = .ok (.invokeinterface 117 3, 5) := by decide +kernel
theorem dTM_compare_31 : decode cTM_compare 31 = .ok (.ireturn, 1) := by decide +kernel
theorem dTM_exportEntry_0 : decode cTM_exportEntry 0 = .ok (.aload_n 0, 1) := by decide +kernel
theorem dTM_exportEntry_1 : decode cTM_exportEntry 1 = .ok (.ifnonnull 7, 3) := by decide +kernel
theorem dTM_exportEntry_4 : decode cTM_exportEntry 4 = .ok (.aconst_null, 1) := by decide +kernel
theorem dTM_exportEntry_5 : decode cTM_exportEntry 5 = .ok (.goto 11, 3) := by decide +kernel
theorem dTM_exportEntry_8 : decode cTM_exportEntry 8 = .ok (.new 282, 3) := by decide +kernel
theorem dTM_exportEntry_11 : decode cTM_exportEntry 11 = .ok (.dup, 1) := by decide +kernel
theorem dTM_exportEntry_12 : decode cTM_exportEntry 12 = .ok (.aload_n 0, 1) := by decide +kernel
theorem dTM_exportEntry_13 : decode cTM_exportEntry 13 = .ok (.invokespecial 284, 3) := by decide +kernel
theorem dTM_exportEntry_16 : decode cTM_exportEntry 16 = .ok (.areturn, 1) := by decide +kernel
theorem dTM_getFirstEntry_0 : decode cTM_getFirstEntry 0 = .ok (.aload_n 0, 1) := by decide +kernel
theorem dTM_getFirstEntry_1 : decode cTM_getFirstEntry 1 = .ok (.getfield 101, 3) := by decide +kernel
theorem dTM_getFirstEntry_4 : decode cTM_getFirstEntry 4 = .ok (.astore_n 1, 1) := by decide +kernel
theorem dTM_getFirstEntry_5 : decode cTM_getFirstEntry 5 = .ok (.aload_n 1, 1) := by decide +kernel
theorem dTM_getFirstEntry_6 : decode cTM_getFirstEntry 6 = .ok (.ifnull 18, 3) := by decide +kernel
theorem dTM_getFirstEntry_9 : decode cTM_getFirstEntry 9 = .ok (.aload_n 1, 1) := by decide +kernel
theorem dTM_getFirstEntry_10 : decode cTM_getFirstEntry 10 = .ok (.getfield 111, 3) := by decide +kernel
theorem dTM_getFirstEntry_13 : decode cTM_getFirstEntry 13 = .ok (.ifnull 11, 3) := by decide +kernel
theorem dTM_getFirstEntry_16 : decode cTM_getFirstEntry 16 = .ok (.aload_n 1, 1) := by decide +kernel
theorem dTM_getFirstEntry_17 : decode cTM_getFirstEntry 17 = .ok (.getfield 111, 3) := by decide +kernel
theorem dTM_getFirstEntry_20 : decode cTM_getFirstEntry 20 = .ok (.astore_n 1, 1) := by decide +kernel
theorem dTM_getFirstEntry_21 : decode cTM_getFirstEntry 21 = .ok (.goto (-12), 3) := by decide +kernel
theorem dTM_getFirstEntry_24 : decode cTM_getFirstEntry 24 = .ok (.aload_n 1, 1) := by decide +kernel
theorem dTM_getFirstEntry_25 : decode cTM_getFirstEntry 25 = .ok (.areturn, 1) := by decide +kernel
theorem dTM_getLastEntry_0 : decode cTM_getLastEntry 0 = .ok (.aload_n 0, 1) := by decide +kernel
theorem dTM_getLastEntry_1 : decode cTM_getLastEntry 1 = .ok (.getfield 101, 3) := by decide +kernel
theorem dTM_getLastEntry_4 : decode cTM_getLastEntry 4 = .ok (.astore_n 1, 1) := by decide +kernel
theorem dTM_getLastEntry_5 : decode cTM_getLastEntry 5 = .ok (.aload_n 1, 1) := by decide +kernel
theorem dTM_getLastEntry_6 : decode cTM_getLastEntry 6 = .ok (.ifnull 18, 3) := by decide +kernel
theorem dTM_getLastEntry_9 : decode cTM_getLastEntry 9 = .ok (.aload_n 1, 1) := by decide +kernel
theorem dTM_getLastEntry_10 : decode cTM_getLastEntry 10 = .ok (.getfield 114, 3) := by decide +kernel
theorem dTM_getLastEntry_13 : decode cTM_getLastEntry 13 = .ok (.ifnull 11, 3) := by decide +kernel
theorem dTM_getLastEntry_16 : decode cTM_getLastEntry 16 = .ok (.aload_n 1, 1) := by decide +kernel
theorem dTM_getLastEntry_17 : decode cTM_getLastEntry 17 = .ok (.getfield 114, 3) := by decide +kernel
theorem dTM_getLastEntry_20 : decode cTM_getLastEntry 20 = .ok (.astore_n 1, 1) := by decide +kernel
theorem dTM_getLastEntry_21 : decode cTM_getLastEntry 21 = .ok (.goto (-12), 3) := by decide +kernel
theorem dTM_getLastEntry_24 : decode cTM_getLastEntry 24 = .ok (.aload_n 1, 1) := by decide +kernel
theorem dTM_getLastEntry_25 : decode cTM_getLastEntry 25 = .ok (.areturn, 1) := by decide +kernel
theorem dTM_successor_0 : decode cTM_successor 0 = .ok (.aload_n 0, 1) := by decide +kernel
theorem dTM_successor_1 : decode cTM_successor 1 = .ok (.ifnonnull 5, 3) := by decide +kernel
theorem dTM_successor_4 : decode cTM_successor 4 = .ok (.aconst_null, 1) := by decide +kernel
theorem dTM_successor_5 : decode cTM_successor 5 = .ok (.areturn, 1) := by decide +kernel
theorem dTM_successor_6 : decode cTM_successor 6 = .ok (.aload_n 0, 1) := by decide +kernel
theorem dTM_successor_7 : decode cTM_successor 7 = .ok (.getfield 114, 3) := by decide +kernel
theorem dTM_successor_10 : decode cTM_successor 10 = .ok (.ifnull 25, 3) := by decide +kernel
theorem dTM_successor_13 : decode cTM_successor 13 = .ok (.aload_n 0, 1) := by decide +kernel
theorem dTM_successor_14 : decode cTM_successor 14 = .ok (.getfield 114, 3) := by decide +kernel
theorem dTM_successor_17 : decode cTM_successor 17 = .ok (.astore_n 1, 1) := by decide +kernel
theorem dTM_successor_18 : decode cTM_successor 18 = .ok (.aload_n 1, 1) := by decide +kernel
theorem dTM_successor_19 : decode cTM_successor 19 = .ok (.getfield 111, 3) := by decide +kernel
theorem dTM_successor_22 : decode cTM_successor 22 = .ok (.ifnull 11, 3) := by decide +kernel
theorem dTM_successor_25 : decode cTM_successor 25 = .ok (.aload_n 1, 1) := by decide +kernel
theorem dTM_successor_26 : decode cTM_successor 26 = .ok (.getfield 111, 3) := by decide +kernel
theorem dTM_successor_29 : decode cTM_successor 29 = .ok (.astore_n 1, 1) := by decide +kernel
theorem dTM_successor_30 : decode cTM_successor 30 = .ok (.goto (-12), 3) := by decide +kernel
theorem dTM_successor_33 : decode cTM_successor 33 = .ok (.aload_n 1, 1) := by decide +kernel
theorem dTM_successor_34 : decode cTM_successor 34 = .ok (.areturn, 1) := by decide +kernel
theorem dTM_successor_35 : decode cTM_successor 35 = .ok (.aload_n 0, 1) := by decide +kernel
theorem dTM_successor_36 : decode cTM_successor 36 = .ok (.getfield 124, 3) := by decide +kernel
theorem dTM_successor_39 : decode cTM_successor 39 = .ok (.astore_n 1, 1) := by decide +kernel
theorem dTM_successor_40 : decode cTM_successor 40 = .ok (.aload_n 0, 1) := by decide +kernel
theorem dTM_successor_41 : decode cTM_successor 41 = .ok (.astore_n 2, 1) := by decide +kernel
theorem dTM_successor_42 : decode cTM_successor 42 = .ok (.aload_n 1, 1) := by decide +kernel
theorem dTM_successor_43 : decode cTM_successor 43 = .ok (.ifnull 21, 3) := by decide +kernel
theorem dTM_successor_46 : decode cTM_successor 46 = .ok (.aload_n 2, 1) := by decide +kernel
theorem dTM_successor_47 : decode cTM_successor 47 = .ok (.aload_n 1, 1) := by decide +kernel
theorem dTM_successor_48 : decode cTM_successor 48 = .ok (.getfield 114, 3) := by decide +kernel
theorem dTM_successor_51 : decode cTM_successor 51 = .ok (.if_acmp .ne 13, 3) := by decide +kernel
theorem dTM_successor_54 : decode cTM_successor 54 = .ok (.aload_n 1, 1) := by decide +kernel
theorem dTM_successor_55 : decode cTM_successor 55 = .ok (.astore_n 2, 1) := by decide +kernel
theorem dTM_successor_56 : decode cTM_successor 56 = .ok (.aload_n 1, 1) := by decide +kernel
theorem dTM_successor_57 : decode cTM_successor 57 = .ok (.getfield 124, 3) := by decide +kernel
theorem dTM_successor_60 : decode cTM_successor 60 = .ok (.astore_n 1, 1) := by decide +kernel
theorem dTM_successor_61 : decode cTM_successor 61 = .ok (.goto (-19), 3) := by decide +kernel
theorem dTM_successor_64 : decode cTM_successor 64 = .ok (.aload_n 1, 1) := by decide +kernel
theorem dTM_successor_65 : decode cTM_successor 65 = .ok (.areturn, 1) := by decide +kernel
theorem dTM_colorOf_0 : decode cTM_colorOf 0 = .ok (.aload_n 0, 1) := by decide +kernel
theorem dTM_colorOf_1 : decode cTM_colorOf 1 = .ok (.ifnonnull 7, 3) := by decide +kernel
theorem dTM_colorOf_4 : decode cTM_colorOf 4 = .ok (.iconst 1, 1) := by decide +kernel
theorem dTM_colorOf_5 : decode cTM_colorOf 5 = .ok (.goto 7, 3) := by decide +kernel
theorem dTM_colorOf_8 : decode cTM_colorOf 8 = .ok (.aload_n 0, 1) := by decide +kernel
theorem dTM_colorOf_9 : decode cTM_colorOf 9 = .ok (.getfield 290, 3) := by decide +kernel
theorem dTM_colorOf_12 : decode cTM_colorOf 12 = .ok (.ireturn, 1) := by decide +kernel
theorem dTM_parentOf_0 : decode cTM_parentOf 0 = .ok (.aload_n 0, 1) := by decide +kernel
theorem dTM_parentOf_1 : decode cTM_parentOf 1 = .ok (.ifnonnull 7, 3) := by decide +kernel
theorem dTM_parentOf_4 : decode cTM_parentOf 4 = .ok (.aconst_null, 1) := by decide +kernel
theorem dTM_parentOf_5 : decode cTM_parentOf 5 = .ok (.goto 7, 3) := by decide +kernel
theorem dTM_parentOf_8 : decode cTM_parentOf 8 = .ok (.aload_n 0, 1) := by decide +kernel
theorem dTM_parentOf_9 : decode cTM_parentOf 9 = .ok (.getfield 124, 3) := by decide +kernel
theorem dTM_parentOf_12 : decode cTM_parentOf 12 = .ok (.areturn, 1) := by decide +kernel
theorem dTM_setColor_0 : decode cTM_setColor 0 = .ok (.aload_n 0, 1) := by decide +kernel
theorem dTM_setColor_1 : decode cTM_setColor 1 = .ok (.ifnull 8, 3) := by decide +kernel
theorem dTM_setColor_4 : decode cTM_setColor 4 = .ok (.aload_n 0, 1) := by decide +kernel
theorem dTM_setColor_5 : decode cTM_setColor 5 = .ok (.iload_n 1, 1) := by decide +kernel
theorem dTM_setColor_6 : decode cTM_setColor 6 = .ok (.putfield 290, 3) := by decide +kernel
theorem dTM_setColor_9 : decode cTM_setColor 9 = .ok (.return_, 1) := by decide +kernel
theorem dTM_leftOf_0 : decode cTM_leftOf 0 = .ok (.aload_n 0, 1) := by decide +kernel
theorem dTM_leftOf_1 : decode cTM_leftOf 1 = .ok (.ifnonnull 7, 3) := by decide +kernel
theorem dTM_leftOf_4 : decode cTM_leftOf 4 = .ok (.aconst_null, 1) := by decide +kernel
theorem dTM_leftOf_5 : decode cTM_leftOf 5 = .ok (.goto 7, 3) := by decide +kernel
theorem dTM_leftOf_8 : decode cTM_leftOf 8 = .ok (.aload_n 0, 1) := by decide +kernel
theorem dTM_leftOf_9 : decode cTM_leftOf 9 = .ok (.getfield 111, 3) := by decide +kernel
theorem dTM_leftOf_12 : decode cTM_leftOf 12 = .ok (.areturn, 1) := by decide +kernel
theorem dTM_rightOf_0 : decode cTM_rightOf 0 = .ok (.aload_n 0, 1) := by decide +kernel
theorem dTM_rightOf_1 : decode cTM_rightOf 1 = .ok (.ifnonnull 7, 3) := by decide +kernel
theorem dTM_rightOf_4 : decode cTM_rightOf 4 = .ok (.aconst_null, 1) := by decide +kernel
theorem dTM_rightOf_5 : decode cTM_rightOf 5 = .ok (.goto 7, 3) := by decide +kernel
theorem dTM_rightOf_8 : decode cTM_rightOf 8 = .ok (.aload_n 0, 1) := by decide +kernel
theorem dTM_rightOf_9 : decode cTM_rightOf 9 = .ok (.getfield 114, 3) := by decide +kernel
theorem dTM_rightOf_12 : decode cTM_rightOf 12 = .ok (.areturn, 1) := by decide +kernel
theorem dTM_rotateLeft_0 : decode cTM_rotateLeft 0 = .ok (.aload_n 1, 1) := by decide +kernel
theorem dTM_rotateLeft_1 : decode cTM_rotateLeft 1 = .ok (.ifnull 94, 3) := by decide +kernel
theorem dTM_rotateLeft_4 : decode cTM_rotateLeft 4 = .ok (.aload_n 1, 1) := by decide +kernel
theorem dTM_rotateLeft_5 : decode cTM_rotateLeft 5 = .ok (.getfield 114, 3) := by decide +kernel
theorem dTM_rotateLeft_8 : decode cTM_rotateLeft 8 = .ok (.astore_n 2, 1) := by decide +kernel
theorem dTM_rotateLeft_9 : decode cTM_rotateLeft 9 = .ok (.aload_n 1, 1) := by decide +kernel
theorem dTM_rotateLeft_10 : decode cTM_rotateLeft 10 = .ok (.aload_n 2, 1) := by decide +kernel
theorem dTM_rotateLeft_11 : decode cTM_rotateLeft 11 = .ok (.getfield 111, 3) := by decide +kernel
theorem dTM_rotateLeft_14 : decode cTM_rotateLeft 14 = .ok (.putfield 114, 3) := by decide +kernel
theorem dTM_rotateLeft_17 : decode cTM_rotateLeft 17 = .ok (.aload_n 2, 1) := by decide +kernel
theorem dTM_rotateLeft_18 : decode cTM_rotateLeft 18 = .ok (.getfield 111, 3) := by decide +kernel
theorem dTM_rotateLeft_21 : decode cTM_rotateLeft 21 = .ok (.ifnull 11, 3) := by decide +kernel
theorem dTM_rotateLeft_24 : decode cTM_rotateLeft 24 = .ok (.aload_n 2, 1) := by decide +kernel
theorem dTM_rotateLeft_25 : decode cTM_rotateLeft 25 = .ok (.getfield 111, 3) := by decide +kernel
theorem dTM_rotateLeft_28 : decode cTM_rotateLeft 28 = .ok (.aload_n 1, 1) := by decide +kernel
theorem dTM_rotateLeft_29 : decode cTM_rotateLeft 29 = .ok (.putfield 124, 3) := by decide +kernel
theorem dTM_rotateLeft_32 : decode cTM_rotateLeft 32 = .ok (.aload_n 2, 1) := by decide +kernel
theorem dTM_rotateLeft_33 : decode cTM_rotateLeft 33 = .ok (.aload_n 1, 1) := by decide +kernel
theorem dTM_rotateLeft_34 : decode cTM_rotateLeft 34 = .ok (.getfield 124, 3) := by decide +kernel
theorem dTM_rotateLeft_37 : decode cTM_rotateLeft 37 = .ok (.putfield 124, 3) := by decide +kernel
theorem dTM_rotateLeft_40 : decode cTM_rotateLeft 40 = .ok (.aload_n 1, 1) := by decide +kernel
theorem dTM_rotateLeft_41 : decode cTM_rotateLeft 41 = .ok (.getfield 124, 3) := by decide +kernel
theorem dTM_rotateLeft_44 : decode cTM_rotateLeft 44 = .ok (.ifnonnull 11, 3) := by decide +kernel
theorem dTM_rotateLeft_47 : decode cTM_rotateLeft 47 = .ok (.aload_n 0, 1) := by decide +kernel
theorem dTM_rotateLeft_48 : decode cTM_rotateLeft 48 = .ok (.aload_n 2, 1) := by decide +kernel
theorem dTM_rotateLeft_49 : decode cTM_rotateLeft 49 = .ok (.putfield 101, 3) := by decide +kernel
theorem dTM_rotateLeft_52 : decode cTM_rotateLeft 52 = .ok (.goto 33, 3) := by decide +kernel
theorem dTM_rotateLeft_55 : decode cTM_rotateLeft 55 = .ok (.aload_n 1, 1) := by decide +kernel
theorem dTM_rotateLeft_56 : decode cTM_rotateLeft 56 = .ok (.getfield 124, 3) := by decide +kernel
theorem dTM_rotateLeft_59 : decode cTM_rotateLeft 59 = .ok (.getfield 111, 3) := by decide +kernel
theorem dTM_rotateLeft_62 : decode cTM_rotateLeft 62 = .ok (.aload_n 1, 1) := by decide +kernel
theorem dTM_rotateLeft_63 : decode cTM_rotateLeft 63 = .ok (.if_acmp .ne 14, 3) := by decide +kernel
theorem dTM_rotateLeft_66 : decode cTM_rotateLeft 66 = .ok (.aload_n 1, 1) := by decide +kernel
theorem dTM_rotateLeft_67 : decode cTM_rotateLeft 67 = .ok (.getfield 124, 3) := by decide +kernel
theorem dTM_rotateLeft_70 : decode cTM_rotateLeft 70 = .ok (.aload_n 2, 1) := by decide +kernel
theorem dTM_rotateLeft_71 : decode cTM_rotateLeft 71 = .ok (.putfield 111, 3) := by decide +kernel
theorem dTM_rotateLeft_74 : decode cTM_rotateLeft 74 = .ok (.goto 11, 3) := by decide +kernel
theorem dTM_rotateLeft_77 : decode cTM_rotateLeft 77 = .ok (.aload_n 1, 1) := by decide +kernel
theorem dTM_rotateLeft_78 : decode cTM_rotateLeft 78 = .ok (.getfield 124, 3) := by decide +kernel
theorem dTM_rotateLeft_81 : decode cTM_rotateLeft 81 = .ok (.aload_n 2, 1) := by decide +kernel
theorem dTM_rotateLeft_82 : decode cTM_rotateLeft 82 = .ok (.putfield 114, 3) := by decide +kernel
theorem dTM_rotateLeft_85 : decode cTM_rotateLeft 85 = .ok (.aload_n 2, 1) := by decide +kernel
theorem dTM_rotateLeft_86 : decode cTM_rotateLeft 86 = .ok (.aload_n 1, 1) := by decide +kernel
theorem dTM_rotateLeft_87 : decode cTM_rotateLeft 87 = .ok (.putfield 111, 3) := by decide +kernel
theorem dTM_rotateLeft_90 : decode cTM_rotateLeft 90 = .ok (.aload_n 1, 1) := by decide +kernel
theorem dTM_rotateLeft_91 : decode cTM_rotateLeft 91 = .ok (.aload_n 2, 1) := by decide +kernel
theorem dTM_rotateLeft_92 : decode cTM_rotateLeft 92 = .ok (.putfield 124, 3) := by decide +kernel
theorem dTM_rotateLeft_95 : decode cTM_rotateLeft 95 = .ok (.return_, 1) := by decide +kernel
theorem dTM_rotateRight_0 : decode cTM_rotateRight 0 = .ok (.aload_n 1, 1) := by decide +kernel
theorem dTM_rotateRight_1 : decode cTM_rotateRight 1 = .ok (.ifnull 94, 3) := by decide +kernel
theorem dTM_rotateRight_4 : decode cTM_rotateRight 4 = .ok (.aload_n 1, 1) := by decide +kernel
theorem dTM_rotateRight_5 : decode cTM_rotateRight 5 = .ok (.getfield 111, 3) := by decide +kernel
theorem dTM_rotateRight_8 : decode cTM_rotateRight 8 = .ok (.astore_n 2, 1) := by decide +kernel
theorem dTM_rotateRight_9 : decode cTM_rotateRight 9 = .ok (.aload_n 1, 1) := by decide +kernel
theorem dTM_rotateRight_10 : decode cTM_rotateRight 10 = .ok (.aload_n 2, 1) := by decide +kernel
theorem dTM_rotateRight_11 : decode cTM_rotateRight 11 = .ok (.getfield 114, 3) := by decide +kernel
theorem dTM_rotateRight_14 : decode cTM_rotateRight 14 = .ok (.putfield 111, 3) := by decide +kernel
theorem dTM_rotateRight_17 : decode cTM_rotateRight 17 = .ok (.aload_n 2, 1) := by decide +kernel
theorem dTM_rotateRight_18 : decode cTM_rotateRight 18 = .ok (.getfield 114, 3) := by decide +kernel
theorem dTM_rotateRight_21 : decode cTM_rotateRight 21 = .ok (.ifnull 11, 3) := by decide +kernel
theorem dTM_rotateRight_24 : decode cTM_rotateRight 24 = .ok (.aload_n 2, 1) := by decide +kernel
theorem dTM_rotateRight_25 : decode cTM_rotateRight 25 = .ok (.getfield 114, 3) := by decide +kernel
theorem dTM_rotateRight_28 : decode cTM_rotateRight 28 = .ok (.aload_n 1, 1) := by decide +kernel
theorem dTM_rotateRight_29 : decode cTM_rotateRight 29 = .ok (.putfield 124, 3) := by decide +kernel
theorem dTM_rotateRight_32 : decode cTM_rotateRight 32 = .ok (.aload_n 2, 1) := by decide +kernel
theorem dTM_rotateRight_33 : decode cTM_rotateRight 33 = .ok (.aload_n 1, 1) := by decide +kernel
theorem dTM_rotateRight_34 : decode cTM_rotateRight 34 = .ok (.getfield 124, 3) := by decide +kernel
theorem dTM_rotateRight_37 : decode cTM_rotateRight 37 = .ok (.putfield 124, 3) := by decide +kernel
theorem dTM_rotateRight_40 : decode cTM_rotateRight 40 = .ok (.aload_n 1, 1) := by decide +kernel
theorem dTM_rotateRight_41 : decode cTM_rotateRight 41 = .ok (.getfield 124, 3) := by decide +kernel
theorem dTM_rotateRight_44 : decode cTM_rotateRight 44 = .ok (.ifnonnull 11, 3) := by decide +kernel
theorem dTM_rotateRight_47 : decode cTM_rotateRight 47 = .ok (.aload_n 0, 1) := by decide +kernel
theorem dTM_rotateRight_48 : decode cTM_rotateRight 48 = .ok (.aload_n 2, 1) := by decide +kernel
theorem dTM_rotateRight_49 : decode cTM_rotateRight 49 = .ok (.putfield 101, 3) := by decide +kernel
theorem dTM_rotateRight_52 : decode cTM_rotateRight 52 = .ok (.goto 33, 3) := by decide +kernel
theorem dTM_rotateRight_55 : decode cTM_rotateRight 55 = .ok (.aload_n 1, 1) := by decide +kernel
theorem dTM_rotateRight_56 : decode cTM_rotateRight 56 = .ok (.getfield 124, 3) := by decide +kernel
theorem dTM_rotateRight_59 : decode cTM_rotateRight 59 = .ok (.getfield 114, 3) := by decide +kernel
theorem dTM_rotateRight_62 : decode cTM_rotateRight 62 = .ok (.aload_n 1, 1) := by decide +kernel
theorem dTM_rotateRight_63 : decode cTM_rotateRight 63 = .ok (.if_acmp .ne 14, 3) := by decide +kernel
theorem dTM_rotateRight_66 : decode cTM_rotateRight 66 = .ok (.aload_n 1, 1) := by decide +kernel
theorem dTM_rotateRight_67 : decode cTM_rotateRight 67 = .ok (.getfield 124, 3) := by decide +kernel
theorem dTM_rotateRight_70 : decode cTM_rotateRight 70 = .ok (.aload_n 2, 1) := by decide +kernel
theorem dTM_rotateRight_71 : decode cTM_rotateRight 71 = .ok (.putfield 114, 3) := by decide +kernel
theorem dTM_rotateRight_74 : decode cTM_rotateRight 74 = .ok (.goto 11, 3) := by decide +kernel
theorem dTM_rotateRight_77 : decode cTM_rotateRight 77 = .ok (.aload_n 1, 1) := by decide +kernel
theorem dTM_rotateRight_78 : decode cTM_rotateRight 78 = .ok (.getfield 124, 3) := by decide +kernel
theorem dTM_rotateRight_81 : decode cTM_rotateRight 81 = .ok (.aload_n 2, 1) := by decide +kernel
theorem dTM_rotateRight_82 : decode cTM_rotateRight 82 = .ok (.putfield 111, 3) := by decide +kernel
theorem dTM_rotateRight_85 : decode cTM_rotateRight 85 = .ok (.aload_n 2, 1) := by decide +kernel
theorem dTM_rotateRight_86 : decode cTM_rotateRight 86 = .ok (.aload_n 1, 1) := by decide +kernel
theorem dTM_rotateRight_87 : decode cTM_rotateRight 87 = .ok (.putfield 114, 3) := by decide +kernel
theorem dTM_rotateRight_90 : decode cTM_rotateRight 90 = .ok (.aload_n 1, 1) := by decide +kernel
theorem dTM_rotateRight_91 : decode cTM_rotateRight 91 = .ok (.aload_n 2, 1) := by decide +kernel
theorem dTM_rotateRight_92 : decode cTM_rotateRight 92 = .ok (.putfield 124, 3) := by decide +kernel
theorem dTM_rotateRight_95 : decode cTM_rotateRight 95 = .ok (.return_, 1) := by decide +kernel
theorem dTM_fixAfterInsertion_0 : decode cTM_fixAfterInsertion 0 = .ok (.aload_n 1, 1) := by decide +kernel
theorem dTM_fixAfterInsertion_1 : decode cTM_fixAfterInsertion 1 = .ok (.iconst 0, 1) := by decide +kernel
theorem dTM_fixAfterInsertion_2 : decode cTM_fixAfterInsertion 2 = .ok (.putfield 290, 3) := by decide +kernel
theorem dTM_fixAfterInsertion_5 : decode cTM_fixAfterInsertion 5 = .ok (.aload_n 1, 1) := by decide +kernel
theorem dTM_fixAfterInsertion_6 : decode cTM_fixAfterInsertion 6 = .ok (.ifnull 252, 3) := by decide +kernel
theorem dTM_fixAfterInsertion_9 : decode cTM_fixAfterInsertion 9 = .ok (.aload_n 1, 1) := by decide +kernel
theorem dTM_fixAfterInsertion_10 : decode cTM_fixAfterInsertion 10 = .ok (.aload_n 0, 1) := by decide +kernel
theorem dTM_fixAfterInsertion_11 : decode cTM_fixAfterInsertion 11 = .ok (.getfield 101, 3) := by decide +kernel
theorem dTM_fixAfterInsertion_14 : decode cTM_fixAfterInsertion 14 = .ok (.if_acmp .eq 244, 3) := by decide +kernel
theorem dTM_fixAfterInsertion_17 : decode cTM_fixAfterInsertion 17 = .ok (.aload_n 1, 1) := by decide +kernel
theorem dTM_fixAfterInsertion_18 : decode cTM_fixAfterInsertion 18 = .ok (.getfield 124, 3) := by decide +kernel
theorem dTM_fixAfterInsertion_21 : decode cTM_fixAfterInsertion 21 = .ok (.getfield 290, 3) := by decide +kernel
theorem dTM_fixAfterInsertion_24 : decode cTM_fixAfterInsertion 24 = .ok (.ifCond .ne 234, 3) := by decide +kernel
theorem dTM_fixAfterInsertion_27 : decode cTM_fixAfterInsertion 27 = .ok (.aload_n 1, 1) := by decide +kernel
theorem dTM_fixAfterInsertion_28 : decode cTM_fixAfterInsertion 28 = .ok (.invokestatic 294, 3) := by decide +kernel
theorem dTM_fixAfterInsertion_31 : decode cTM_fixAfterInsertion 31 = .ok (.aload_n 1, 1) := by decide +kernel
theorem dTM_fixAfterInsertion_32 : decode cTM_fixAfterInsertion 32 = .ok (.invokestatic 294, 3) := by decide +kernel
theorem dTM_fixAfterInsertion_35 : decode cTM_fixAfterInsertion 35 = .ok (.invokestatic 294, 3) := by decide +kernel
theorem dTM_fixAfterInsertion_38 : decode cTM_fixAfterInsertion 38 = .ok (.invokestatic 297, 3) := by decide +kernel
theorem dTM_fixAfterInsertion_41 : decode cTM_fixAfterInsertion 41 = .ok (.if_acmp .ne 110, 3) := by decide +kernel
theorem dTM_fixAfterInsertion_44 : decode cTM_fixAfterInsertion 44 = .ok (.aload_n 1, 1) := by decide +kernel
theorem dTM_fixAfterInsertion_45 : decode cTM_fixAfterInsertion 45 = .ok (.invokestatic 294, 3) := by decide +kernel
theorem dTM_fixAfterInsertion_48 : decode cTM_fixAfterInsertion 48 = .ok (.invokestatic 294, 3) := by decide +kernel
theorem dTM_fixAfterInsertion_51 : decode cTM_fixAfterInsertion 51 = .ok (.invokestatic 300, 3) := by decide +kernel
theorem dTM_fixAfterInsertion_54 : decode cTM_fixAfterInsertion 54 = .ok (.astore_n 2, 1) := by decide +kernel
theorem dTM_fixAfterInsertion_55 : decode cTM_fixAfterInsertion 55 = .ok (.aload_n 2, 1) := by decide +kernel
theorem dTM_fixAfterInsertion_56 : decode cTM_fixAfterInsertion 56 = .ok (.invokestatic 303, 3) := by decide +kernel
theorem dTM_fixAfterInsertion_59 : decode cTM_fixAfterInsertion 59 = .ok (.ifCond .ne 38, 3) := by decide +kernel
theorem dTM_fixAfterInsertion_62 : decode cTM_fixAfterInsertion 62 = .ok (.aload_n 1, 1) := by decide +kernel
theorem dTM_fixAfterInsertion_63 : decode cTM_fixAfterInsertion 63 = .ok (.invokestatic 294, 3) := by decide +kernel
theorem dTM_fixAfterInsertion_66 : decode cTM_fixAfterInsertion 66 = .ok (.iconst 1, 1) := by decide +kernel
theorem dTM_fixAfterInsertion_67 : decode cTM_fixAfterInsertion 67 = .ok (.invokestatic 307, 3) := by decide +kernel
theorem dTM_fixAfterInsertion_70 : decode cTM_fixAfterInsertion 70 = .ok (.aload_n 2, 1) := by decide +kernel
theorem dTM_fixAfterInsertion_71 : decode cTM_fixAfterInsertion 71 = .ok (.iconst 1, 1) := by decide +kernel
theorem dTM_fixAfterInsertion_72 : decode cTM_fixAfterInsertion 72 = .ok (.invokestatic 307, 3) := by decide +kernel
theorem dTM_fixAfterInsertion_75 : decode cTM_fixAfterInsertion 75 = .ok (.aload_n 1, 1) := by decide +kernel
theorem dTM_fixAfterInsertion_76 : decode cTM_fixAfterInsertion 76 = .ok (.invokestatic 294, 3) := by decide +kernel
theorem dTM_fixAfterInsertion_79 : decode cTM_fixAfterInsertion 79 = .ok (.invokestatic 294, 3) := by decide +kernel
theorem dTM_fixAfterInsertion_82 : decode cTM_fixAfterInsertion 82 = .ok (.iconst 0, 1) := by decide +kernel
theorem dTM_fixAfterInsertion_83 : decode cTM_fixAfterInsertion 83 = .ok (.invokestatic 307, 3) := by decide +kernel
theorem dTM_fixAfterInsertion_86 : decode cTM_fixAfterInsertion 86 = .ok (.aload_n 1, 1) := by decide +kernel
theorem dTM_fixAfterInsertion_87 : decode cTM_fixAfterInsertion 87 = .ok (.invokestatic 294, 3) := by decide +kernel
theorem dTM_fixAfterInsertion_90 : decode cTM_fixAfterInsertion 90 = .ok (.invokestatic 294, 3) := by decide +kernel
theorem dTM_fixAfterInsertion_93 : decode cTM_fixAfterInsertion 93 = .ok (.astore_n 1, 1) := by decide +kernel
theorem dTM_fixAfterInsertion_94 : decode cTM_fixAfterInsertion 94 = .ok (.goto 54, 3) := by decide +kernel
theorem dTM_fixAfterInsertion_97 : decode cTM_fixAfterInsertion 97 = .ok (.aload_n 1, 1) := by decide +kernel
theorem dTM_fixAfterInsertion_98 : decode cTM_fixAfterInsertion 98 = .ok (.aload_n 1, 1) := by decide +kernel
theorem dTM_fixAfterInsertion_99 : decode cTM_fixAfterInsertion 99 = .ok (.invokestatic 294, 3) := by decide +kernel
theorem dTM_fixAfterInsertion_102 : decode cTM_fixAfterInsertion 102 = .ok (.invokestatic 300, 3) := by decide +kernel
theorem dTM_fixAfterInsertion_105 : decode cTM_fixAfterInsertion 105 = .ok (.if_acmp .ne 13, 3) := by decide +kernel
theorem dTM_fixAfterInsertion_108 : decode cTM_fixAfterInsertion 108 = .ok (.aload_n 1, 1) := by decide +kernel
theorem dTM_fixAfterInsertion_109 : decode cTM_fixAfterInsertion 109 = .ok (.invokestatic 294, 3) := by decide +kernel
theorem dTM_fixAfterInsertion_112 : decode cTM_fixAfterInsertion 112 = .ok (.astore_n 1, 1) := by decide +kernel
theorem dTM_fixAfterInsertion_113 : decode cTM_fixAfterInsertion 113 = .ok (.aload_n 0, 1) := by decide +kernel
theorem dTM_fixAfterInsertion_114 : decode cTM_fixAfterInsertion 114 = .ok (.aload_n 1, 1) := by decide +kernel
theorem dTM_fixAfterInsertion_115 : decode cTM_fixAfterInsertion 115 = .ok (.invokevirtual 311, 3) := by decide +kernel
theorem dTM_fixAfterInsertion_118 : decode cTM_fixAfterInsertion 118 = .ok (.aload_n 1, 1) := by decide +kernel
theorem dTM_fixAfterInsertion_119 : decode cTM_fixAfterInsertion 119 = .ok (.invokestatic 294, 3) := by decide +kernel
theorem dTM_fixAfterInsertion_122 : decode cTM_fixAfterInsertion 122 = .ok (.iconst 1, 1) := by decide +kernel
theorem dTM_fixAfterInsertion_123 : decode cTM_fixAfterInsertion 123 = .ok (.invokestatic 307, 3) := by decide +kernel
theorem dTM_fixAfterInsertion_126 : decode cTM_fixAfterInsertion 126 = .ok (.aload_n 1, 1) := by decide +kernel
theorem dTM_fixAfterInsertion_127 : decode cTM_fixAfterInsertion 127 = .ok (.invokestatic 294, 3) := by decide +kernel
theorem dTM_fixAfterInsertion_130 : decode cTM_fixAfterInsertion 130 = .ok (.invokestatic 294, 3) := by decide +kernel
theorem dTM_fixAfterInsertion_133 : decode cTM_fixAfterInsertion 133 = .ok (.iconst 0, 1) := by decide +kernel
theorem dTM_fixAfterInsertion_134 : decode cTM_fixAfterInsertion 134 = .ok (.invokestatic 307, 3) := by decide +kernel
theorem dTM_fixAfterInsertion_137 : decode cTM_fixAfterInsertion 137 = .ok (.aload_n 0, 1) := by decide +kernel
theorem dTM_fixAfterInsertion_138 : decode cTM_fixAfterInsertion 138 = .ok (.aload_n 1, 1) := by decide +kernel
theorem dTM_fixAfterInsertion_139 : decode cTM_fixAfterInsertion 139 = .ok (.invokestatic 294, 3) := by decide +kernel
theorem dTM_fixAfterInsertion_142 : decode cTM_fixAfterInsertion 142 = .ok (.invokestatic 294, 3) := by decide +kernel
theorem dTM_fixAfterInsertion_145 : decode cTM_fixAfterInsertion 145 = .ok (.invokevirtual 314, 3) := by decide +kernel
theorem dTM_fixAfterInsertion_148 : decode cTM_fixAfterInsertion 148 = .ok (.goto (-143), 3) := by decide +kernel
theorem dTM_fixAfterInsertion_151 : decode cTM_fixAfterInsertion 151 = .ok (.aload_n 1, 1) := by decide +kernel
theorem dTM_fixAfterInsertion_152 : decode cTM_fixAfterInsertion 152 = .ok (.invokestatic 294, 3) := by decide +kernel
theorem dTM_fixAfterInsertion_155 : decode cTM_fixAfterInsertion 155 = .ok (.invokestatic 294, 3) := by decide +kernel
theorem dTM_fixAfterInsertion_158 : decode cTM_fixAfterInsertion 158 = .ok (.invokestatic 297, 3) := by decide +kernel
theorem dTM_fixAfterInsertion_161 : decode cTM_fixAfterInsertion 161 = .ok (.astore_n 2, 1) := by decide +kernel
theorem dTM_fixAfterInsertion_162 : decode cTM_fixAfterInsertion 162 = .ok (.aload_n 2, 1) := by decide +kernel
theorem dTM_fixAfterInsertion_163 : decode cTM_fixAfterInsertion 163 = .ok (.invokestatic 303, 3) := by decide +kernel
theorem dTM_fixAfterInsertion_166 : decode cTM_fixAfterInsertion 166 = .ok (.ifCond .ne 38, 3) := by decide +kernel
theorem dTM_fixAfterInsertion_169 : decode cTM_fixAfterInsertion 169 = .ok (.aload_n 1, 1) := by decide +kernel
theorem dTM_fixAfterInsertion_170 : decode cTM_fixAfterInsertion 170 = .ok (.invokestatic 294, 3) := by decide +kernel
theorem dTM_fixAfterInsertion_173 : decode cTM_fixAfterInsertion 173 = .ok (.iconst 1, 1) := by decide +kernel
theorem dTM_fixAfterInsertion_174 : decode cTM_fixAfterInsertion 174 = .ok (.invokestatic 307, 3) := by decide +kernel
theorem dTM_fixAfterInsertion_177 : decode cTM_fixAfterInsertion 177 = .ok (.aload_n 2, 1) := by decide +kernel
theorem dTM_fixAfterInsertion_178 : decode cTM_fixAfterInsertion 178 = .ok (.iconst 1, 1) := by decide +kernel
theorem dTM_fixAfterInsertion_179 : decode cTM_fixAfterInsertion 179 = .ok (.invokestatic 307, 3) := by decide +kernel
theorem dTM_fixAfterInsertion_182 : decode cTM_fixAfterInsertion 182 = .ok (.aload_n 1, 1) := by decide +kernel
theorem dTM_fixAfterInsertion_183 : decode cTM_fixAfterInsertion 183 = .ok (.invokestatic 294, 3) := by decide +kernel
theorem dTM_fixAfterInsertion_186 : decode cTM_fixAfterInsertion 186 = .ok (.invokestatic 294, 3) := by decide +kernel
theorem dTM_fixAfterInsertion_189 : decode cTM_fixAfterInsertion 189 = .ok (.iconst 0, 1) := by decide +kernel
theorem dTM_fixAfterInsertion_190 : decode cTM_fixAfterInsertion 190 = .ok (.invokestatic 307, 3) := by decide +kernel
theorem dTM_fixAfterInsertion_193 : decode cTM_fixAfterInsertion 193 = .ok (.aload_n 1, 1) := by decide +kernel
theorem dTM_fixAfterInsertion_194 : decode cTM_fixAfterInsertion 194 = .ok (.invokestatic 294, 3) := by decide +kernel
theorem dTM_fixAfterInsertion_197 : decode cTM_fixAfterInsertion 197 = .ok (.invokestatic 294, 3) := by decide +kernel
theorem dTM_fixAfterInsertion_200 : decode cTM_fixAfterInsertion 200 = .ok (.astore_n 1, 1) := by decide +kernel
theorem dTM_fixAfterInsertion_201 : decode cTM_fixAfterInsertion 201 = .ok (.goto 54, 3) := by decide +kernel
theorem dTM_fixAfterInsertion_204 : decode cTM_fixAfterInsertion 204 = .ok (.aload_n 1, 1) := by decide +kernel
theorem dTM_fixAfterInsertion_205 : decode cTM_fixAfterInsertion 205 = .ok (.aload_n 1, 1) := by decide +kernel
theorem dTM_fixAfterInsertion_206 : decode cTM_fixAfterInsertion 206 = .ok (.invokestatic 294, 3) := by decide +kernel
theorem dTM_fixAfterInsertion_209 : decode cTM_fixAfterInsertion 209 = .ok (.invokestatic 297, 3) := by decide +kernel
theorem dTM_fixAfterInsertion_212 : decode cTM_fixAfterInsertion 212 = .ok (.if_acmp .ne 13, 3) := by decide +kernel
theorem dTM_fixAfterInsertion_215 : decode cTM_fixAfterInsertion 215 = .ok (.aload_n 1, 1) := by decide +kernel
theorem dTM_fixAfterInsertion_216 : decode cTM_fixAfterInsertion 216 = .ok (.invokestatic 294, 3) := by decide +kernel
theorem dTM_fixAfterInsertion_219 : decode cTM_fixAfterInsertion 219 = .ok (.astore_n 1, 1) := by decide +kernel
theorem dTM_fixAfterInsertion_220 : decode cTM_fixAfterInsertion 220 = .ok (.aload_n 0, 1) := by decide +kernel
theorem dTM_fixAfterInsertion_221 : decode cTM_fixAfterInsertion 221 = .ok (.aload_n 1, 1) := by decide +kernel
theorem dTM_fixAfterInsertion_222 : decode cTM_fixAfterInsertion 222 = .ok (.invokevirtual 314, 3) := by decide +kernel
theorem dTM_fixAfterInsertion_225 : decode cTM_fixAfterInsertion 225 = .ok (.aload_n 1, 1) := by decide +kernel
theorem dTM_fixAfterInsertion_226 : decode cTM_fixAfterInsertion 226 = .ok (.invokestatic 294, 3) := by decide +kernel
theorem dTM_fixAfterInsertion_229 : decode cTM_fixAfterInsertion 229 = .ok (.iconst 1, 1) := by decide +kernel
theorem dTM_fixAfterInsertion_230 : decode cTM_fixAfterInsertion 230 = .ok (.invokestatic 307, 3) := by decide +kernel
theorem dTM_fixAfterInsertion_233 : decode cTM_fixAfterInsertion 233 = .ok (.aload_n 1, 1) := by decide +kernel
theorem dTM_fixAfterInsertion_234 : decode cTM_fixAfterInsertion 234 = .ok (.invokestatic 294, 3) := by decide +kernel
theorem dTM_fixAfterInsertion_237 : decode cTM_fixAfterInsertion 237 = .ok (.invokestatic 294, 3) := by decide +kernel
theorem dTM_fixAfterInsertion_240 : decode cTM_fixAfterInsertion 240 = .ok (.iconst 0, 1) := by decide +kernel
theorem dTM_fixAfterInsertion_241 : decode cTM_fixAfterInsertion 241 = .ok (.invokestatic 307, 3) := by decide +kernel
theorem dTM_fixAfterInsertion_244 : decode cTM_fixAfterInsertion 244 = .ok (.aload_n 0, 1) := by decide +kernel
theorem dTM_fixAfterInsertion_245 : decode cTM_fixAfterInsertion 245 = .ok (.aload_n 1, 1) := by decide +kernel
theorem dTM_fixAfterInsertion_246 : decode cTM_fixAfterInsertion 246 = .ok (.invokestatic 294, 3) := by decide +kernel
theorem dTM_fixAfterInsertion_249 : decode cTM_fixAfterInsertion 249 = .ok (.invokestatic 294, 3) := by decide +kernel
theorem dTM_fixAfterInsertion_252 : decode cTM_fixAfterInsertion 252 = .ok (.invokevirtual 311, 3) := by decide +kernel
theorem dTM_fixAfterInsertion_255 : decode cTM_fixAfterInsertion 255 = .ok (.goto (-250), 3) := by decide +kernel
theorem dTM_fixAfterInsertion_258 : decode cTM_fixAfterInsertion 258 = .ok (.aload_n 0, 1) := by decide +kernel
theorem dTM_fixAfterInsertion_259 : decode cTM_fixAfterInsertion 259 = .ok (.getfield 101, 3) := by decide +kernel
theorem dTM_fixAfterInsertion_262 : decode cTM_fixAfterInsertion 262 = .ok (.iconst 1, 1) := by decide +kernel
theorem dTM_fixAfterInsertion_263 : decode cTM_fixAfterInsertion 263 = .ok (.putfield 290, 3) := by decide +kernel
theorem dTM_fixAfterInsertion_266 : decode cTM_fixAfterInsertion 266 = .ok (.return_, 1) := by decide +kernel
theorem dTM_deleteEntry_0 : decode cTM_deleteEntry 0 = .ok (.aload_n 0, 1) := by decide +kernel
theorem dTM_deleteEntry_1 : decode cTM_deleteEntry 1 = .ok (.dup, 1) := by decide +kernel
theorem dTM_deleteEntry_2 : decode cTM_deleteEntry 2 = .ok (.getfield 13, 3) := by decide +kernel
theorem dTM_deleteEntry_5 : decode cTM_deleteEntry 5 = .ok (.iconst 1, 1) := by decide +kernel
theorem dTM_deleteEntry_6 : decode cTM_deleteEntry 6 = .ok (.iadd, 1) := by decide +kernel
theorem dTM_deleteEntry_7 : decode cTM_deleteEntry 7 = .ok (.putfield 13, 3) := by decide +kernel
theorem dTM_deleteEntry_10 : decode cTM_deleteEntry 10 = .ok (.aload_n 0, 1) := by decide +kernel
theorem dTM_deleteEntry_11 : decode cTM_deleteEntry 11 = .ok (.dup, 1) := by decide +kernel
theorem dTM_deleteEntry_12 : decode cTM_deleteEntry 12 = .ok (.getfield 7, 3) := by decide +kernel
theorem dTM_deleteEntry_15 : decode cTM_deleteEntry 15 = .ok (.iconst 1, 1) := by decide +kernel
theorem dTM_deleteEntry_16 : decode cTM_deleteEntry 16 = .ok (.isub, 1) := by decide +kernel
theorem dTM_deleteEntry_17 : decode cTM_deleteEntry 17 = .ok (.putfield 7, 3) := by decide +kernel
theorem dTM_deleteEntry_20 : decode cTM_deleteEntry 20 = .ok (.aload_n 1, 1) := by decide +kernel
theorem dTM_deleteEntry_21 : decode cTM_deleteEntry 21 = .ok (.getfield 111, 3) := by decide +kernel
theorem dTM_deleteEntry_24 : decode cTM_deleteEntry 24 = .ok (.ifnull 33, 3) := by decide +kernel
theorem dTM_deleteEntry_27 : decode cTM_deleteEntry 27 = .ok (.aload_n 1, 1) := by decide +kernel
theorem dTM_deleteEntry_28 : decode cTM_deleteEntry 28 = .ok (.getfield 114, 3) := by decide +kernel
theorem dTM_deleteEntry_31 : decode cTM_deleteEntry 31 = .ok (.ifnull 26, 3) := by decide +kernel
theorem dTM_deleteEntry_34 : decode cTM_deleteEntry 34 = .ok (.aload_n 1, 1) := by decide +kernel
theorem dTM_deleteEntry_35 : decode cTM_deleteEntry 35 = .ok (.invokestatic 68, 3) := by decide +kernel
theorem dTM_deleteEntry_38 : decode cTM_deleteEntry 38 = .ok (.astore_n 2, 1) := by decide +kernel
theorem dTM_deleteEntry_39 : decode cTM_deleteEntry 39 = .ok (.aload_n 1, 1) := by decide +kernel
theorem dTM_deleteEntry_40 : decode cTM_deleteEntry 40 = .ok (.aload_n 2, 1) := by decide +kernel
theorem dTM_deleteEntry_41 : decode cTM_deleteEntry 41 = .ok (.getfield 105, 3) := by decide +kernel
theorem dTM_deleteEntry_44 : decode cTM_deleteEntry 44 = .ok (.putfield 105, 3) := by decide +kernel
theorem dTM_deleteEntry_47 : decode cTM_deleteEntry 47 = .ok (.aload_n 1, 1) := by decide +kernel
theorem dTM_deleteEntry_48 : decode cTM_deleteEntry 48 = .ok (.aload_n 2, 1) := by decide +kernel
theorem dTM_deleteEntry_49 : decode cTM_deleteEntry 49 = .ok (.getfield 58, 3) := by decide +kernel
theorem dTM_deleteEntry_52 : decode cTM_deleteEntry 52 = .ok (.putfield 58, 3) := by decide +kernel
theorem dTM_deleteEntry_55 : decode cTM_deleteEntry 55 = .ok (.aload_n 2, 1) := by decide +kernel
theorem dTM_deleteEntry_56 : decode cTM_deleteEntry 56 = .ok (.astore_n 1, 1) := by decide +kernel
theorem dTM_deleteEntry_57 : decode cTM_deleteEntry 57 = .ok (.aload_n 1, 1) := by decide +kernel
theorem dTM_deleteEntry_58 : decode cTM_deleteEntry 58 = .ok (.getfield 111, 3) := by decide +kernel
theorem dTM_deleteEntry_61 : decode cTM_deleteEntry 61 = .ok (.ifnull 10, 3) := by decide +kernel
theorem dTM_deleteEntry_64 : decode cTM_deleteEntry 64 = .ok (.aload_n 1, 1) := by decide +kernel
theorem dTM_deleteEntry_65 : decode cTM_deleteEntry 65 = .ok (.getfield 111, 3) := by decide +kernel
theorem dTM_deleteEntry_68 : decode cTM_deleteEntry 68 = .ok (.goto 7, 3) := by decide +kernel
theorem dTM_deleteEntry_71 : decode cTM_deleteEntry 71 = .ok (.aload_n 1, 1) := by decide +kernel
theorem dTM_deleteEntry_72 : decode cTM_deleteEntry 72 = .ok (.getfield 114, 3) := by decide +kernel
theorem dTM_deleteEntry_75 : decode cTM_deleteEntry 75 = .ok (.astore_n 2, 1) := by decide +kernel
theorem dTM_deleteEntry_76 : decode cTM_deleteEntry 76 = .ok (.aload_n 2, 1) := by decide +kernel
theorem dTM_deleteEntry_77 : decode cTM_deleteEntry 77 = .ok (.ifnull 87, 3) := by decide +kernel
theorem dTM_deleteEntry_80 : decode cTM_deleteEntry 80 = .ok (.aload_n 2, 1) := by decide +kernel
theorem dTM_deleteEntry_81 : decode cTM_deleteEntry 81 = .ok (.aload_n 1, 1) := by decide +kernel
theorem dTM_deleteEntry_82 : decode cTM_deleteEntry 82 = .ok (.getfield 124, 3) := by decide +kernel
theorem dTM_deleteEntry_85 : decode cTM_deleteEntry 85 = .ok (.putfield 124, 3) := by decide +kernel
theorem dTM_deleteEntry_88 : decode cTM_deleteEntry 88 = .ok (.aload_n 1, 1) := by decide +kernel
theorem dTM_deleteEntry_89 : decode cTM_deleteEntry 89 = .ok (.getfield 124, 3) := by decide +kernel
theorem dTM_deleteEntry_92 : decode cTM_deleteEntry 92 = .ok (.ifnonnull 11, 3) := by decide +kernel
theorem dTM_deleteEntry_95 : decode cTM_deleteEntry 95 = .ok (.aload_n 0, 1) := by decide +kernel
theorem dTM_deleteEntry_96 : decode cTM_deleteEntry 96 = .ok (.aload_n 2, 1) := by decide +kernel
theorem dTM_deleteEntry_97 : decode cTM_deleteEntry 97 = .ok (.putfield 101, 3) := by decide +kernel
theorem dTM_deleteEntry_100 : decode cTM_deleteEntry 100 = .ok (.goto 33, 3) := by decide +kernel
theorem dTM_deleteEntry_103 : decode cTM_deleteEntry 103 = .ok (.aload_n 1, 1) := by decide +kernel
theorem dTM_deleteEntry_104 : decode cTM_deleteEntry 104 = .ok (.aload_n 1, 1) := by decide +kernel
theorem dTM_deleteEntry_105 : decode cTM_deleteEntry 105 = .ok (.getfield 124, 3) := by decide +kernel
theorem dTM_deleteEntry_108 : decode cTM_deleteEntry 108 = .ok (.getfield 111, 3) := by decide +kernel
theorem dTM_deleteEntry_111 : decode cTM_deleteEntry 111 = .ok (.if_acmp .ne 14, 3) := by decide +kernel
theorem dTM_deleteEntry_114 : decode cTM_deleteEntry 114 = .ok (.aload_n 1, 1) := by decide +kernel
theorem dTM_deleteEntry_115 : decode cTM_deleteEntry 115 = .ok (.getfield 124, 3) := by decide +kernel
theorem dTM_deleteEntry_118 : decode cTM_deleteEntry 118 = .ok (.aload_n 2, 1) := by decide +kernel
theorem dTM_deleteEntry_119 : decode cTM_deleteEntry 119 = .ok (.putfield 111, 3) := by decide +kernel
theorem dTM_deleteEntry_122 : decode cTM_deleteEntry 122 = .ok (.goto 11, 3) := by decide +kernel
theorem dTM_deleteEntry_125 : decode cTM_deleteEntry 125 = .ok (.aload_n 1, 1) := by decide +kernel
theorem dTM_deleteEntry_126 : decode cTM_deleteEntry 126 = .ok (.getfield 124, 3) := by decide +kernel
theorem dTM_deleteEntry_129 : decode cTM_deleteEntry 129 = .ok (.aload_n 2, 1) := by decide +kernel
theorem dTM_deleteEntry_130 : decode cTM_deleteEntry 130 = .ok (.putfield 114, 3) := by decide +kernel
theorem dTM_deleteEntry_133 : decode cTM_deleteEntry 133 = .ok (.aload_n 1, 1) := by decide +kernel
theorem dTM_deleteEntry_134 : decode cTM_deleteEntry 134 = .ok (.aload_n 1, 1) := by decide +kernel
theorem dTM_deleteEntry_135 : decode cTM_deleteEntry 135 = .ok (.aload_n 1, 1) := by decide +kernel
theorem dTM_deleteEntry_136 : decode cTM_deleteEntry 136 = .ok (.aconst_null, 1) := by decide +kernel
theorem dTM_deleteEntry_137 : decode cTM_deleteEntry 137 = .ok (.dup_x1, 1) := by decide +kernel
theorem dTM_deleteEntry_138 : decode cTM_deleteEntry 138 = .ok (.putfield 124, 3) := by decide +kernel
theorem dTM_deleteEntry_141 : decode cTM_deleteEntry 141 = .ok (.dup_x1, 1) := by decide +kernel
theorem dTM_deleteEntry_142 : decode cTM_deleteEntry 142 = .ok (.putfield 114, 3) := by decide +kernel
theorem dTM_deleteEntry_145 : decode cTM_deleteEntry 145 = .ok (.putfield 111, 3) := by decide +kernel
theorem dTM_deleteEntry_148 : decode cTM_deleteEntry 148 = .ok (.aload_n 1, 1) := by decide +kernel
theorem dTM_deleteEntry_149 : decode cTM_deleteEntry 149 = .ok (.getfield 290, 3) := by decide +kernel
theorem dTM_deleteEntry_152 : decode cTM_deleteEntry 152 = .ok (.iconst 1, 1) := by decide +kernel
theorem dTM_deleteEntry_153 : decode cTM_deleteEntry 153 = .ok (.if_icmp .ne 92, 3) := by decide +kernel
theorem dTM_deleteEntry_156 : decode cTM_deleteEntry 156 = .ok (.aload_n 0, 1) := by decide +kernel
theorem dTM_deleteEntry_157 : decode cTM_deleteEntry 157 = .ok (.aload_n 2, 1) := by decide +kernel
theorem dTM_deleteEntry_158 : decode cTM_deleteEntry 158 = .ok (.invokevirtual 317, 3) := by decide +kernel
theorem dTM_deleteEntry_161 : decode cTM_deleteEntry 161 = .ok (.goto 84, 3) := by decide +kernel
theorem dTM_deleteEntry_164 : decode cTM_deleteEntry 164 = .ok (.aload_n 1, 1) := by decide +kernel
theorem dTM_deleteEntry_165 : decode cTM_deleteEntry 165 = .ok (.getfield 124, 3) := by decide +kernel
theorem dTM_deleteEntry_168 : decode cTM_deleteEntry 168 = .ok (.ifnonnull 11, 3) := by decide +kernel
theorem dTM_deleteEntry_171 : decode cTM_deleteEntry 171 = .ok (.aload_n 0, 1) := by decide +kernel
theorem dTM_deleteEntry_172 : decode cTM_deleteEntry 172 = .ok (.aconst_null, 1) := by decide +kernel
theorem dTM_deleteEntry_173 : decode cTM_deleteEntry 173 = .ok (.putfield 101, 3) := by decide +kernel
theorem dTM_deleteEntry_176 : decode cTM_deleteEntry 176 = .ok (.goto 69, 3) := by decide +kernel
theorem dTM_deleteEntry_179 : decode cTM_deleteEntry 179 = .ok (.aload_n 1, 1) := by decide +kernel
theorem dTM_deleteEntry_180 : decode cTM_deleteEntry 180 = .ok (.getfield 290, 3) := by decide +kernel
theorem dTM_deleteEntry_183 : decode cTM_deleteEntry 183 = .ok (.iconst 1, 1) := by decide +kernel
theorem dTM_deleteEntry_184 : decode cTM_deleteEntry 184 = .ok (.if_icmp .ne 8, 3) := by decide +kernel
theorem dTM_deleteEntry_187 : decode cTM_deleteEntry 187 = .ok (.aload_n 0, 1) := by decide +kernel
theorem dTM_deleteEntry_188 : decode cTM_deleteEntry 188 = .ok (.aload_n 1, 1) := by decide +kernel
theorem dTM_deleteEntry_189 : decode cTM_deleteEntry 189 = .ok (.invokevirtual 317, 3) := by decide +kernel
theorem dTM_deleteEntry_192 : decode cTM_deleteEntry 192 = .ok (.aload_n 1, 1) := by decide +kernel
theorem dTM_deleteEntry_193 : decode cTM_deleteEntry 193 = .ok (.getfield 124, 3) := by decide +kernel
theorem dTM_deleteEntry_196 : decode cTM_deleteEntry 196 = .ok (.ifnull 49, 3) := by decide +kernel
theorem dTM_deleteEntry_199 : decode cTM_deleteEntry 199 = .ok (.aload_n 1, 1) := by decide +kernel
theorem dTM_deleteEntry_200 : decode cTM_deleteEntry 200 = .ok (.aload_n 1, 1) := by decide +kernel
theorem dTM_deleteEntry_201 : decode cTM_deleteEntry 201 = .ok (.getfield 124, 3) := by decide +kernel
theorem dTM_deleteEntry_204 : decode cTM_deleteEntry 204 = .ok (.getfield 111, 3) := by decide +kernel
theorem dTM_deleteEntry_207 : decode cTM_deleteEntry 207 = .ok (.if_acmp .ne 14, 3) := by decide +kernel
theorem dTM_deleteEntry_210 : decode cTM_deleteEntry 210 = .ok (.aload_n 1, 1) := by decide +kernel
theorem dTM_deleteEntry_211 : decode cTM_deleteEntry 211 = .ok (.getfield 124, 3) := by decide +kernel
theorem dTM_deleteEntry_214 : decode cTM_deleteEntry 214 = .ok (.aconst_null, 1) := by decide +kernel
theorem dTM_deleteEntry_215 : decode cTM_deleteEntry 215 = .ok (.putfield 111, 3) := by decide +kernel
theorem dTM_deleteEntry_218 : decode cTM_deleteEntry 218 = .ok (.goto 22, 3) := by decide +kernel
theorem dTM_deleteEntry_221 : decode cTM_deleteEntry 221 = .ok (.aload_n 1, 1) := by decide +kernel
theorem dTM_deleteEntry_222 : decode cTM_deleteEntry 222 = .ok (.aload_n 1, 1) := by decide +kernel
theorem dTM_deleteEntry_223 : decode cTM_deleteEntry 223 = .ok (.getfield 124, 3) := by decide +kernel
theorem dTM_deleteEntry_226 : decode cTM_deleteEntry 226 = .ok (.getfield 114, 3) := by decide +kernel
theorem dTM_deleteEntry_229 : decode cTM_deleteEntry 229 = .ok (.if_acmp .ne 11, 3) := by decide +kernel
theorem dTM_deleteEntry_232 : decode cTM_deleteEntry 232 = .ok (.aload_n 1, 1) := by decide +kernel
theorem dTM_deleteEntry_233 : decode cTM_deleteEntry 233 = .ok (.getfield 124, 3) := by decide +kernel
theorem dTM_deleteEntry_236 : decode cTM_deleteEntry 236 = .ok (.aconst_null, 1) := by decide +kernel
theorem dTM_deleteEntry_237 : decode cTM_deleteEntry 237 = .ok (.putfield 114, 3) := by decide +kernel
theorem dTM_deleteEntry_240 : decode cTM_deleteEntry 240 = .ok (.aload_n 1, 1) := by decide +kernel
theorem dTM_deleteEntry_241 : decode cTM_deleteEntry 241 = .ok (.aconst_null, 1) := by decide +kernel
theorem dTM_deleteEntry_242 : decode cTM_deleteEntry 242 = .ok (.putfield 124, 3) := by decide +kernel
theorem dTM_deleteEntry_245 : decode cTM_deleteEntry 245 = .ok (.return_, 1) := by decide +kernel
theorem dTM_fixAfterDeletion_0 : decode cTM_fixAfterDeletion 0 = .ok (.aload_n 1, 1) := by decide +kernel
theorem dTM_fixAfterDeletion_1 : decode cTM_fixAfterDeletion 1 = .ok (.aload_n 0, 1) := by decide +kernel
theorem dTM_fixAfterDeletion_2 : decode cTM_fixAfterDeletion 2 = .ok (.getfield 101, 3) := by decide +kernel
theorem dTM_fixAfterDeletion_5 : decode cTM_fixAfterDeletion 5 = .ok (.if_acmp .eq 340, 3) := by decide +kernel
theorem dTM_fixAfterDeletion_8 : decode cTM_fixAfterDeletion 8 = .ok (.aload_n 1, 1) := by decide +kernel
theorem dTM_fixAfterDeletion_9 : decode cTM_fixAfterDeletion 9 = .ok (.invokestatic 303, 3) := by decide +kernel
theorem dTM_fixAfterDeletion_12 : decode cTM_fixAfterDeletion 12 = .ok (.iconst 1, 1) := by decide +kernel
theorem dTM_fixAfterDeletion_13 : decode cTM_fixAfterDeletion 13 = .ok (.if_icmp .ne 332, 3) := by decide +kernel
theorem dTM_fixAfterDeletion_16 : decode cTM_fixAfterDeletion 16 = .ok (.aload_n 1, 1) := by decide +kernel
theorem dTM_fixAfterDeletion_17 : decode cTM_fixAfterDeletion 17 = .ok (.aload_n 1, 1) := by decide +kernel
theorem dTM_fixAfterDeletion_18 : decode cTM_fixAfterDeletion 18 = .ok (.invokestatic 294, 3) := by decide +kernel
theorem dTM_fixAfterDeletion_21 : decode cTM_fixAfterDeletion 21 = .ok (.invokestatic 297, 3) := by decide +kernel
theorem dTM_fixAfterDeletion_24 : decode cTM_fixAfterDeletion 24 = .ok (.if_acmp .ne 162, 3) := by decide +kernel
theorem dTM_fixAfterDeletion_27 : decode cTM_fixAfterDeletion 27 = .ok (.aload_n 1, 1) := by decide +kernel
theorem dTM_fixAfterDeletion_28 : decode cTM_fixAfterDeletion 28 = .ok (.invokestatic 294, 3) := by decide +kernel
theorem dTM_fixAfterDeletion_31 : decode cTM_fixAfterDeletion 31 = .ok (.invokestatic 300, 3) := by decide +kernel
theorem dTM_fixAfterDeletion_34 : decode cTM_fixAfterDeletion 34 = .ok (.astore_n 2, 1) := by decide +kernel
theorem dTM_fixAfterDeletion_35 : decode cTM_fixAfterDeletion 35 = .ok (.aload_n 2, 1) := by decide +kernel
theorem dTM_fixAfterDeletion_36 : decode cTM_fixAfterDeletion 36 = .ok (.invokestatic 303, 3) := by decide +kernel
theorem dTM_fixAfterDeletion_39 : decode cTM_fixAfterDeletion 39 = .ok (.ifCond .ne 32, 3) := by decide +kernel
theorem dTM_fixAfterDeletion_42 : decode cTM_fixAfterDeletion 42 = .ok (.aload_n 2, 1) := by decide +kernel
theorem dTM_fixAfterDeletion_43 : decode cTM_fixAfterDeletion 43 = .ok (.iconst 1, 1) := by decide +kernel
theorem dTM_fixAfterDeletion_44 : decode cTM_fixAfterDeletion 44 = .ok (.invokestatic 307, 3) := by decide +kernel
theorem dTM_fixAfterDeletion_47 : decode cTM_fixAfterDeletion 47 = .ok (.aload_n 1, 1) := by decide +kernel
theorem dTM_fixAfterDeletion_48 : decode cTM_fixAfterDeletion 48 = .ok (.invokestatic 294, 3) := by decide +kernel
theorem dTM_fixAfterDeletion_51 : decode cTM_fixAfterDeletion 51 = .ok (.iconst 0, 1) := by decide +kernel
theorem dTM_fixAfterDeletion_52 : decode cTM_fixAfterDeletion 52 = .ok (.invokestatic 307, 3) := by decide +kernel
theorem dTM_fixAfterDeletion_55 : decode cTM_fixAfterDeletion 55 = .ok (.aload_n 0, 1) := by decide +kernel
theorem dTM_fixAfterDeletion_56 : decode cTM_fixAfterDeletion 56 = .ok (.aload_n 1, 1) := by decide +kernel
theorem dTM_fixAfterDeletion_57 : decode cTM_fixAfterDeletion 57 = .ok (.invokestatic 294, 3) := by decide +kernel
theorem dTM_fixAfterDeletion_60 : decode cTM_fixAfterDeletion 60 = .ok (.invokevirtual 311, 3) := by decide +kernel
theorem dTM_fixAfterDeletion_63 : decode cTM_fixAfterDeletion 63 = .ok (.aload_n 1, 1) := by decide +kernel
theorem dTM_fixAfterDeletion_64 : decode cTM_fixAfterDeletion 64 = .ok (.invokestatic 294, 3) := by decide +kernel
theorem dTM_fixAfterDeletion_67 : decode cTM_fixAfterDeletion 67 = .ok (.invokestatic 300, 3) := by decide +kernel
theorem dTM_fixAfterDeletion_70 : decode cTM_fixAfterDeletion 70 = .ok (.astore_n 2, 1) := by decide +kernel
theorem dTM_fixAfterDeletion_71 : decode cTM_fixAfterDeletion 71 = .ok (.aload_n 2, 1) := by decide +kernel
theorem dTM_fixAfterDeletion_72 : decode cTM_fixAfterDeletion 72 = .ok (.invokestatic 297, 3) := by decide +kernel
theorem dTM_fixAfterDeletion_75 : decode cTM_fixAfterDeletion 75 = .ok (.invokestatic 303, 3) := by decide +kernel
theorem dTM_fixAfterDeletion_78 : decode cTM_fixAfterDeletion 78 = .ok (.iconst 1, 1) := by decide +kernel
theorem dTM_fixAfterDeletion_79 : decode cTM_fixAfterDeletion 79 = .ok (.if_icmp .ne 27, 3) := by decide +kernel
theorem dTM_fixAfterDeletion_82 : decode cTM_fixAfterDeletion 82 = .ok (.aload_n 2, 1) := by decide +kernel
theorem dTM_fixAfterDeletion_83 : decode cTM_fixAfterDeletion 83 = .ok (.invokestatic 300, 3) := by decide +kernel
theorem dTM_fixAfterDeletion_86 : decode cTM_fixAfterDeletion 86 = .ok (.invokestatic 303, 3) := by decide +kernel
theorem dTM_fixAfterDeletion_89 : decode cTM_fixAfterDeletion 89 = .ok (.iconst 1, 1) := by decide +kernel
theorem dTM_fixAfterDeletion_90 : decode cTM_fixAfterDeletion 90 = .ok (.if_icmp .ne 16, 3) := by decide +kernel
theorem dTM_fixAfterDeletion_93 : decode cTM_fixAfterDeletion 93 = .ok (.aload_n 2, 1) := by decide +kernel
theorem dTM_fixAfterDeletion_94 : decode cTM_fixAfterDeletion 94 = .ok (.iconst 0, 1) := by decide +kernel
theorem dTM_fixAfterDeletion_95 : decode cTM_fixAfterDeletion 95 = .ok (.invokestatic 307, 3) := by decide +kernel
theorem dTM_fixAfterDeletion_98 : decode cTM_fixAfterDeletion 98 = .ok (.aload_n 1, 1) := by decide +kernel
theorem dTM_fixAfterDeletion_99 : decode cTM_fixAfterDeletion 99 = .ok (.invokestatic 294, 3) := by decide +kernel
theorem dTM_fixAfterDeletion_102 : decode cTM_fixAfterDeletion 102 = .ok (.astore_n 1, 1) := by decide +kernel
theorem dTM_fixAfterDeletion_103 : decode cTM_fixAfterDeletion 103 = .ok (.goto 80, 3) := by decide +kernel
theorem dTM_fixAfterDeletion_106 : decode cTM_fixAfterDeletion 106 = .ok (.aload_n 2, 1) := by decide +kernel
theorem dTM_fixAfterDeletion_107 : decode cTM_fixAfterDeletion 107 = .ok (.invokestatic 300, 3) := by decide +kernel
theorem dTM_fixAfterDeletion_110 : decode cTM_fixAfterDeletion 110 = .ok (.invokestatic 303, 3) := by decide +kernel
theorem dTM_fixAfterDeletion_113 : decode cTM_fixAfterDeletion 113 = .ok (.iconst 1, 1) := by decide +kernel
theorem dTM_fixAfterDeletion_114 : decode cTM_fixAfterDeletion 114 = .ok (.if_icmp .ne 29, 3) := by decide +kernel
theorem dTM_fixAfterDeletion_117 : decode cTM_fixAfterDeletion 117 = .ok (.aload_n 2, 1) := by decide +kernel
theorem dTM_fixAfterDeletion_118 : decode cTM_fixAfterDeletion 118 = .ok (.invokestatic 297, 3) := by decide +kernel
theorem dTM_fixAfterDeletion_121 : decode cTM_fixAfterDeletion 121 = .ok (.iconst 1, 1) := by decide +kernel
theorem dTM_fixAfterDeletion_122 : decode cTM_fixAfterDeletion 122 = .ok (.invokestatic 307, 3) := by decide +kernel
theorem dTM_fixAfterDeletion_125 : decode cTM_fixAfterDeletion 125 = .ok (.aload_n 2, 1) := by decide +kernel
theorem dTM_fixAfterDeletion_126 : decode cTM_fixAfterDeletion 126 = .ok (.iconst 0, 1) := by decide +kernel
theorem dTM_fixAfterDeletion_127 : decode cTM_fixAfterDeletion 127 = .ok (.invokestatic 307, 3) := by decide +kernel
theorem dTM_fixAfterDeletion_130 : decode cTM_fixAfterDeletion 130 = .ok (.aload_n 0, 1) := by decide +kernel
theorem dTM_fixAfterDeletion_131 : decode cTM_fixAfterDeletion 131 = .ok (.aload_n 2, 1) := by decide +kernel
theorem dTM_fixAfterDeletion_132 : decode cTM_fixAfterDeletion 132 = .ok (.invokevirtual 314, 3) := by decide +kernel
theorem dTM_fixAfterDeletion_135 : decode cTM_fixAfterDeletion 135 = .ok (.aload_n 1, 1) := by decide +kernel
theorem dTM_fixAfterDeletion_136 : decode cTM_fixAfterDeletion 136 = .ok (.invokestatic 294, 3) := by decide +kernel
theorem dTM_fixAfterDeletion_139 : decode cTM_fixAfterDeletion 139 = .ok (.invokestatic 300, 3) := by decide +kernel
theorem dTM_fixAfterDeletion_142 : decode cTM_fixAfterDeletion 142 = .ok (.astore_n 2, 1) := by decide +kernel
theorem dTM_fixAfterDeletion_143 : decode cTM_fixAfterDeletion 143 = .ok (.aload_n 2, 1) := by decide +kernel
theorem dTM_fixAfterDeletion_144 : decode cTM_fixAfterDeletion 144 = .ok (.aload_n 1, 1) := by decide +kernel
theorem dTM_fixAfterDeletion_145 : decode cTM_fixAfterDeletion 145 = .ok (.invokestatic 294, 3) := by decide +kernel
theorem dTM_fixAfterDeletion_148 : decode cTM_fixAfterDeletion 148 = .ok (.invokestatic 303, 3) := by decide +kernel
theorem dTM_fixAfterDeletion_151 : decode cTM_fixAfterDeletion 151 = .ok (.invokestatic 307, 3) := by decide +kernel
theorem dTM_fixAfterDeletion_154 : decode cTM_fixAfterDeletion 154 = .ok (.aload_n 1, 1) := by decide +kernel
theorem dTM_fixAfterDeletion_155 : decode cTM_fixAfterDeletion 155 = .ok (.invokestatic 294, 3) := by decide +kernel
theorem dTM_fixAfterDeletion_158 : decode cTM_fixAfterDeletion 158 = .ok (.iconst 1, 1) := by decide +kernel
theorem dTM_fixAfterDeletion_159 : decode cTM_fixAfterDeletion 159 = .ok (.invokestatic 307, 3) := by decide +kernel
theorem dTM_fixAfterDeletion_162 : decode cTM_fixAfterDeletion 162 = .ok (.aload_n 2, 1) := by decide +kernel
theorem dTM_fixAfterDeletion_163 : decode cTM_fixAfterDeletion 163 = .ok (.invokestatic 300, 3) := by decide +kernel
theorem dTM_fixAfterDeletion_166 : decode cTM_fixAfterDeletion 166 = .ok (.iconst 1, 1) := by decide +kernel
theorem dTM_fixAfterDeletion_167 : decode cTM_fixAfterDeletion 167 = .ok (.invokestatic 307, 3) := by decide +kernel
theorem dTM_fixAfterDeletion_170 : decode cTM_fixAfterDeletion 170 = .ok (.aload_n 0, 1) := by decide +kernel
theorem dTM_fixAfterDeletion_171 : decode cTM_fixAfterDeletion 171 = .ok (.aload_n 1, 1) := by decide +kernel
theorem dTM_fixAfterDeletion_172 : decode cTM_fixAfterDeletion 172 = .ok (.invokestatic 294, 3) := by decide +kernel
theorem dTM_fixAfterDeletion_175 : decode cTM_fixAfterDeletion 175 = .ok (.invokevirtual 311, 3) := by decide +kernel
theorem dTM_fixAfterDeletion_178 : decode cTM_fixAfterDeletion 178 = .ok (.aload_n 0, 1) := by decide +kernel
theorem dTM_fixAfterDeletion_179 : decode cTM_fixAfterDeletion 179 = .ok (.getfield 101, 3) := by decide +kernel
theorem dTM_fixAfterDeletion_182 : decode cTM_fixAfterDeletion 182 = .ok (.astore_n 1, 1) := by decide +kernel
theorem dTM_fixAfterDeletion_183 : decode cTM_fixAfterDeletion 183 = .ok (.goto (-183), 3) := by decide +kernel
theorem dTM_fixAfterDeletion_186 : decode cTM_fixAfterDeletion 186 = .ok (.aload_n 1, 1) := by decide +kernel
theorem dTM_fixAfterDeletion_187 : decode cTM_fixAfterDeletion 187 = .ok (.invokestatic 294, 3) := by decide +kernel
theorem dTM_fixAfterDeletion_190 : decode cTM_fixAfterDeletion 190 = .ok (.invokestatic 297, 3) := by decide +kernel
theorem dTM_fixAfterDeletion_193 : decode cTM_fixAfterDeletion 193 = .ok (.astore_n 2, 1) := by decide +kernel
theorem dTM_fixAfterDeletion_194 : decode cTM_fixAfterDeletion 194 = .ok (.aload_n 2, 1) := by decide +kernel
theorem dTM_fixAfterDeletion_195 : decode cTM_fixAfterDeletion 195 = .ok (.invokestatic 303, 3) := by decide +kernel
theorem dTM_fixAfterDeletion_198 : decode cTM_fixAfterDeletion 198 = .ok (.ifCond .ne 32, 3) := by decide +kernel
theorem dTM_fixAfterDeletion_201 : decode cTM_fixAfterDeletion 201 = .ok (.aload_n 2, 1) := by decide +kernel
theorem dTM_fixAfterDeletion_202 : decode cTM_fixAfterDeletion 202 = .ok (.iconst 1, 1) := by decide +kernel
theorem dTM_fixAfterDeletion_203 : decode cTM_fixAfterDeletion 203 = .ok (.invokestatic 307, 3) := by decide +kernel
theorem dTM_fixAfterDeletion_206 : decode cTM_fixAfterDeletion 206 = .ok (.aload_n 1, 1) := by decide +kernel
theorem dTM_fixAfterDeletion_207 : decode cTM_fixAfterDeletion 207 = .ok (.invokestatic 294, 3) := by decide +kernel
theorem dTM_fixAfterDeletion_210 : decode cTM_fixAfterDeletion 210 = .ok (.iconst 0, 1) := by decide +kernel
theorem dTM_fixAfterDeletion_211 : decode cTM_fixAfterDeletion 211 = .ok (.invokestatic 307, 3) := by decide +kernel
theorem dTM_fixAfterDeletion_214 : decode cTM_fixAfterDeletion 214 = .ok (.aload_n 0, 1) := by decide +kernel
theorem dTM_fixAfterDeletion_215 : decode cTM_fixAfterDeletion 215 = .ok (.aload_n 1, 1) := by decide +kernel
theorem dTM_fixAfterDeletion_216 : decode cTM_fixAfterDeletion 216 = .ok (.invokestatic 294, 3) := by decide +kernel
theorem dTM_fixAfterDeletion_219 : decode cTM_fixAfterDeletion 219 = .ok (.invokevirtual 314, 3) := by decide +kernel
theorem dTM_fixAfterDeletion_222 : decode cTM_fixAfterDeletion 222 = .ok (.aload_n 1, 1) := by decide +kernel
theorem dTM_fixAfterDeletion_223 : decode cTM_fixAfterDeletion 223 = .ok (.invokestatic 294, 3) := by decide +kernel
theorem dTM_fixAfterDeletion_226 : decode cTM_fixAfterDeletion 226 = .ok (.invokestatic 297, 3) := by decide +kernel
theorem dTM_fixAfterDeletion_229 : decode cTM_fixAfterDeletion 229 = .ok (.astore_n 2, 1) := by decide +kernel
theorem dTM_fixAfterDeletion_230 : decode cTM_fixAfterDeletion 230 = .ok (.aload_n 2, 1) := by decide +kernel
theorem dTM_fixAfterDeletion_231 : decode cTM_fixAfterDeletion 231 = .ok (.invokestatic 300, 3) := by decide +kernel
theorem dTM_fixAfterDeletion_234 : decode cTM_fixAfterDeletion 234 = .ok (.invokestatic 303, 3) := by decide +kernel
theorem dTM_fixAfterDeletion_237 : decode cTM_fixAfterDeletion 237 = .ok (.iconst 1, 1) := by decide +kernel
theorem dTM_fixAfterDeletion_238 : decode cTM_fixAfterDeletion 238 = .ok (.if_icmp .ne 27, 3) := by decide +kernel
theorem dTM_fixAfterDeletion_241 : decode cTM_fixAfterDeletion 241 = .ok (.aload_n 2, 1) := by decide +kernel
theorem dTM_fixAfterDeletion_242 : decode cTM_fixAfterDeletion 242 = .ok (.invokestatic 297, 3) := by decide +kernel
theorem dTM_fixAfterDeletion_245 : decode cTM_fixAfterDeletion 245 = .ok (.invokestatic 303, 3) := by decide +kernel
theorem dTM_fixAfterDeletion_248 : decode cTM_fixAfterDeletion 248 = .ok (.iconst 1, 1) := by decide +kernel
theorem dTM_fixAfterDeletion_249 : decode cTM_fixAfterDeletion 249 = .ok (.if_icmp .ne 16, 3) := by decide +kernel
theorem dTM_fixAfterDeletion_252 : decode cTM_fixAfterDeletion 252 = .ok (.aload_n 2, 1) := by decide +kernel
theorem dTM_fixAfterDeletion_253 : decode cTM_fixAfterDeletion 253 = .ok (.iconst 0, 1) := by decide +kernel
theorem dTM_fixAfterDeletion_254 : decode cTM_fixAfterDeletion 254 = .ok (.invokestatic 307, 3) := by decide +kernel
theorem dTM_fixAfterDeletion_257 : decode cTM_fixAfterDeletion 257 = .ok (.aload_n 1, 1) := by decide +kernel
theorem dTM_fixAfterDeletion_258 : decode cTM_fixAfterDeletion 258 = .ok (.invokestatic 294, 3) := by decide +kernel
theorem dTM_fixAfterDeletion_261 : decode cTM_fixAfterDeletion 261 = .ok (.astore_n 1, 1) := by decide +kernel
theorem dTM_fixAfterDeletion_262 : decode cTM_fixAfterDeletion 262 = .ok (.goto 80, 3) := by decide +kernel
theorem dTM_fixAfterDeletion_265 : decode cTM_fixAfterDeletion 265 = .ok (.aload_n 2, 1) := by decide +kernel
theorem dTM_fixAfterDeletion_266 : decode cTM_fixAfterDeletion 266 = .ok (.invokestatic 297, 3) := by decide +kernel
theorem dTM_fixAfterDeletion_269 : decode cTM_fixAfterDeletion 269 = .ok (.invokestatic 303, 3) := by decide +kernel
theorem dTM_fixAfterDeletion_272 : decode cTM_fixAfterDeletion 272 = .ok (.iconst 1, 1) := by decide +kernel
theorem dTM_fixAfterDeletion_273 : decode cTM_fixAfterDeletion 273 = .ok (.if_icmp .ne 29, 3) := by decide +kernel
theorem dTM_fixAfterDeletion_276 : decode cTM_fixAfterDeletion 276 = .ok (.aload_n 2, 1) := by decide +kernel
theorem dTM_fixAfterDeletion_277 : decode cTM_fixAfterDeletion 277 = .ok (.invokestatic 300, 3) := by decide +kernel
theorem dTM_fixAfterDeletion_280 : decode cTM_fixAfterDeletion 280 = .ok (.iconst 1, 1) := by decide +kernel
theorem dTM_fixAfterDeletion_281 : decode cTM_fixAfterDeletion 281 = .ok (.invokestatic 307, 3) := by decide +kernel
theorem dTM_fixAfterDeletion_284 : decode cTM_fixAfterDeletion 284 = .ok (.aload_n 2, 1) := by decide +kernel
theorem dTM_fixAfterDeletion_285 : decode cTM_fixAfterDeletion 285 = .ok (.iconst 0, 1) := by decide +kernel
theorem dTM_fixAfterDeletion_286 : decode cTM_fixAfterDeletion 286 = .ok (.invokestatic 307, 3) := by decide +kernel
theorem dTM_fixAfterDeletion_289 : decode cTM_fixAfterDeletion 289 = .ok (.aload_n 0, 1) := by decide +kernel
theorem dTM_fixAfterDeletion_290 : decode cTM_fixAfterDeletion 290 = .ok (.aload_n 2, 1) := by decide +kernel
theorem dTM_fixAfterDeletion_291 : decode cTM_fixAfterDeletion 291 = .ok (.invokevirtual 311, 3) := by decide +kernel
theorem dTM_fixAfterDeletion_294 : decode cTM_fixAfterDeletion 294 = .ok (.aload_n 1, 1) := by decide +kernel
theorem dTM_fixAfterDeletion_295 : decode cTM_fixAfterDeletion 295 = .ok (.invokestatic 294, 3) := by decide +kernel
theorem dTM_fixAfterDeletion_298 : decode cTM_fixAfterDeletion 298 = .ok (.invokestatic 297, 3) := by decide +kernel
theorem dTM_fixAfterDeletion_301 : decode cTM_fixAfterDeletion 301 = .ok (.astore_n 2, 1) := by decide +kernel
theorem dTM_fixAfterDeletion_302 : decode cTM_fixAfterDeletion 302 = .ok (.aload_n 2, 1) := by decide +kernel
theorem dTM_fixAfterDeletion_303 : decode cTM_fixAfterDeletion 303 = .ok (.aload_n 1, 1) := by decide +kernel
theorem dTM_fixAfterDeletion_304 : decode cTM_fixAfterDeletion 304 = .ok (.invokestatic 294, 3) := by decide +kernel
theorem dTM_fixAfterDeletion_307 : decode cTM_fixAfterDeletion 307 = .ok (.invokestatic 303, 3) := by decide +kernel
theorem dTM_fixAfterDeletion_310 : decode cTM_fixAfterDeletion 310 = .ok (.invokestatic 307, 3) := by decide +kernel
theorem dTM_fixAfterDeletion_313 : decode cTM_fixAfterDeletion 313 = .ok (.aload_n 1, 1) := by decide +kernel
theorem dTM_fixAfterDeletion_314 : decode cTM_fixAfterDeletion 314 = .ok (.invokestatic 294, 3) := by decide +kernel
theorem dTM_fixAfterDeletion_317 : decode cTM_fixAfterDeletion 317 = .ok (.iconst 1, 1) := by decide +kernel
theorem dTM_fixAfterDeletion_318 : decode cTM_fixAfterDeletion 318 = .ok (.invokestatic 307, 3) := by decide +kernel
theorem dTM_fixAfterDeletion_321 : decode cTM_fixAfterDeletion 321 = .ok (.aload_n 2, 1) := by decide +kernel
theorem dTM_fixAfterDeletion_322 : decode cTM_fixAfterDeletion 322 = .ok (.invokestatic 297, 3) := by decide +kernel
theorem dTM_fixAfterDeletion_325 : decode cTM_fixAfterDeletion 325 = .ok (.iconst 1, 1) := by decide +kernel
theorem dTM_fixAfterDeletion_326 : decode cTM_fixAfterDeletion 326 = .ok (.invokestatic 307, 3) := by decide +kernel
theorem dTM_fixAfterDeletion_329 : decode cTM_fixAfterDeletion 329 = .ok (.aload_n 0, 1) := by decide +kernel
theorem dTM_fixAfterDeletion_330 : decode cTM_fixAfterDeletion 330 = .ok (.aload_n 1, 1) := by decide +kernel
theorem dTM_fixAfterDeletion_331 : decode cTM_fixAfterDeletion 331 = .ok (.invokestatic 294, 3) := by decide +kernel
theorem dTM_fixAfterDeletion_334 : decode cTM_fixAfterDeletion 334 = .ok (.invokevirtual 314, 3) := by decide +kernel
theorem dTM_fixAfterDeletion_337 : decode cTM_fixAfterDeletion 337 = .ok (.aload_n 0, 1) := by decide +kernel
theorem dTM_fixAfterDeletion_338 : decode cTM_fixAfterDeletion 338 = .ok (.getfield 101, 3) := by decide +kernel
theorem dTM_fixAfterDeletion_341 : decode cTM_fixAfterDeletion 341 = .ok (.astore_n 1, 1) := by decide +kernel
theorem dTM_fixAfterDeletion_342 : decode cTM_fixAfterDeletion 342 = .ok (.goto (-342), 3) := by decide +kernel
theorem dTM_fixAfterDeletion_345 : decode cTM_fixAfterDeletion 345 = .ok (.aload_n 1, 1) := by decide +kernel
theorem dTM_fixAfterDeletion_346 : decode cTM_fixAfterDeletion 346 = .ok (.iconst 1, 1) := by decide +kernel
theorem dTM_fixAfterDeletion_347 : decode cTM_fixAfterDeletion 347 = .ok (.invokestatic 307, 3) := by decide +kernel
theorem dTM_fixAfterDeletion_350 : decode cTM_fixAfterDeletion 350 = .ok (.return_, 1) := by decide +kernel
theorem dAX_newLength_cabcc_0 : decode cAX_newLength_cabcc 0 = .ok (.iload_n 0, 1) := by decide +kernel
theorem dAX_newLength_cabcc_1 : decode cAX_newLength_cabcc 1 = .ok (.iload_n 1, 1) := by decide +kernel
theorem dAX_newLength_cabcc_2 : decode cAX_newLength_cabcc 2 = .ok (.iload_n 2, 1) := by decide +kernel
theorem dAX_newLength_cabcc_3 : decode cAX_newLength_cabcc 3 = .ok (.invokestatic 194, 3) := by decide +kernel
theorem dAX_newLength_cabcc_6 : decode cAX_newLength_cabcc 6 = .ok (.iadd, 1) := by decide +kernel
theorem dAX_newLength_cabcc_7 : decode cAX_newLength_cabcc 7 = .ok (.istore_n 3, 1) := by decide +kernel
theorem dAX_newLength_cabcc_8 : decode cAX_newLength_cabcc 8 = .ok (.iconst 0, 1) := by decide +kernel
theorem dAX_newLength_cabcc_9 : decode cAX_newLength_cabcc 9 = .ok (.iload_n 3, 1) := by decide +kernel
theorem dAX_newLength_cabcc_10 : decode cAX_newLength_cabcc 10 = .ok (.if_icmp .ge 11, 3) := by decide +kernel
theorem dAX_newLength_cabcc_13 : decode cAX_newLength_cabcc 13 = .ok (.iload_n 3, 1) := by decide +kernel
theorem dAX_newLength_cabcc_14 : decode cAX_newLength_cabcc 14 = .ok (.ldc 200, 2) := by decide +kernel
theorem dAX_newLength_cabcc_16 : decode cAX_newLength_cabcc 16 = .ok (.if_icmp .gt 5, 3) := by decide +kernel
theorem dAX_newLength_cabcc_19 : decode cAX_newLength_cabcc 19 = .ok (.iload_n 3, 1) := by decide +kernel
theorem dAX_newLength_cabcc_20 : decode cAX_newLength_cabcc 20 = .ok (.ireturn, 1) := by decide +kernel
theorem dAX_newLength_cabcc_21 : decode cAX_newLength_cabcc 21 = .ok (.iload_n 0, 1) := by decide +kernel
theorem dAX_newLength_cabcc_22 : decode cAX_newLength_cabcc 22 = .ok (.iload_n 1, 1) := by decide +kernel
theorem dAX_newLength_cabcc_23 : decode cAX_newLength_cabcc 23 = .ok (.invokestatic 201, 3) := by decide +kernel
theorem dAX_newLength_cabcc_26 : decode cAX_newLength_cabcc 26 = .ok (.ireturn, 1) := by decide +kernel
theorem dL_init_0 : decode cL_init 0 = .ok (.aload_n 0, 1) := by decide +kernel
theorem dL_init_1 : decode cL_init 1 = .ok (.invokespecial 1, 3) := by decide +kernel
theorem dL_init_4 : decode cL_init 4 = .ok (.aload_n 0, 1) := by decide +kernel
theorem dL_init_5 : decode cL_init 5 = .ok (.new 7, 3) := by decide +kernel
theorem dL_init_8 : decode cL_init 8 = .ok (.dup, 1) := by decide +kernel
theorem dL_init_9 : decode cL_init 9 = .ok (.invokespecial 9, 3) := by decide +kernel
theorem dL_init_12 : decode cL_init 12 = .ok (.putfield 10, 3) := by decide +kernel
theorem dL_init_15 : decode cL_init 15 = .ok (.aload_n 0, 1) := by decide +kernel
theorem dL_init_16 : decode cL_init 16 = .ok (.new 7, 3) := by decide +kernel
theorem dL_init_19 : decode cL_init 19 = .ok (.dup, 1) := by decide +kernel
theorem dL_init_20 : decode cL_init 20 = .ok (.invokespecial 9, 3) := by decide +kernel
theorem dL_init_23 : decode cL_init 23 = .ok (.putfield 16, 3) := by decide +kernel
theorem dL_init_26 : decode cL_init 26 = .ok (.return_, 1) := by decide +kernel
theorem dL_feeds_0 : decode cL_feeds 0 = .ok (.aload_n 0, 1) := by decide +kernel
theorem dL_feeds_1 : decode cL_feeds 1 = .ok (.iconst 0, 1) := by decide +kernel
theorem dL_feeds_2 : decode cL_feeds 2 = .ok (.invokevirtual 19, 3) := by decide +kernel
theorem dL_feeds_5 : decode cL_feeds 5 = .ok (.istore_n 2, 1) := by decide +kernel
theorem dL_feeds_6 : decode cL_feeds 6 = .ok (.iconst 0, 1) := by decide +kernel
theorem dL_feeds_7 : decode cL_feeds 7 = .ok (.istore_n 3, 1) := by decide +kernel
theorem dL_feeds_8 : decode cL_feeds 8 = .ok (.iload_n 3, 1) := by decide +kernel
theorem dL_feeds_9 : decode cL_feeds 9 = .ok (.aload_n 1, 1) := by decide +kernel
theorem dL_feeds_10 : decode cL_feeds 10 = .ok (.invokevirtual 25, 3) := by decide +kernel
theorem dL_feeds_13 : decode cL_feeds 13 = .ok (.if_icmp .ge 105, 3) := by decide +kernel
theorem dL_feeds_16 : decode cL_feeds 16 = .ok (.iconst 5, 1) := by decide +kernel
theorem dL_feeds_17 : decode cL_feeds 17 = .ok (.newarray .int, 2) := by decide +kernel
theorem dL_feeds_19 : decode cL_feeds 19 = .ok (.astore 4, 2) := by decide +kernel
theorem dL_feeds_21 : decode cL_feeds 21 = .ok (.iconst 0, 1) := by decide +kernel
theorem dL_feeds_22 : decode cL_feeds 22 = .ok (.istore 5, 2) := by decide +kernel
theorem dL_feeds_24 : decode cL_feeds 24 = .ok (.iload 5, 2) := by decide +kernel
theorem dL_feeds_26 : decode cL_feeds 26 = .ok (.bipush 20, 2) := by decide +kernel
theorem dL_feeds_28 : decode cL_feeds 28 = .ok (.if_icmp .ge 51, 3) := by decide +kernel
theorem dL_feeds_31 : decode cL_feeds 31 = .ok (.aload 4, 2) := by decide +kernel
theorem dL_feeds_33 : decode cL_feeds 33 = .ok (.iload 5, 2) := by decide +kernel
theorem dL_feeds_35 : decode cL_feeds 35 = .ok (.iconst 4, 1) := by decide +kernel
theorem dL_feeds_36 : decode cL_feeds 36 = .ok (.idiv, 1) := by decide +kernel
theorem dL_feeds_37 : decode cL_feeds 37 = .ok (.aload 4, 2) := by decide +kernel
theorem dL_feeds_39 : decode cL_feeds 39 = .ok (.iload 5, 2) := by decide +kernel
theorem dL_feeds_41 : decode cL_feeds 41 = .ok (.iconst 4, 1) := by decide +kernel
theorem dL_feeds_42 : decode cL_feeds 42 = .ok (.idiv, 1) := by decide +kernel
theorem dL_feeds_43 : decode cL_feeds 43 = .ok (.iaload, 1) := by decide +kernel
theorem dL_feeds_44 : decode cL_feeds 44 = .ok (.bipush 8, 2) := by decide +kernel
theorem dL_feeds_46 : decode cL_feeds 46 = .ok (.ishl, 1) := by decide +kernel
theorem dL_feeds_47 : decode cL_feeds 47 = .ok (.iload_n 3, 1) := by decide +kernel
theorem dL_feeds_48 : decode cL_feeds 48 = .ok (.iload 5, 2) := by decide +kernel
theorem dL_feeds_50 : decode cL_feeds 50 = .ok (.iadd, 1) := by decide +kernel
theorem dL_feeds_51 : decode cL_feeds 51 = .ok (.aload_n 1, 1) := by decide +kernel
theorem dL_feeds_52 : decode cL_feeds 52 = .ok (.invokevirtual 25, 3) := by decide +kernel
theorem dL_feeds_55 : decode cL_feeds 55 = .ok (.if_icmp .ge 14, 3) := by decide +kernel
theorem dL_feeds_58 : decode cL_feeds 58 = .ok (.aload_n 1, 1) := by decide +kernel
theorem dL_feeds_59 : decode cL_feeds 59 = .ok (.iload_n 3, 1) := by decide +kernel
theorem dL_feeds_60 : decode cL_feeds 60 = .ok (.iload 5, 2) := by decide +kernel
theorem dL_feeds_62 : decode cL_feeds 62 = .ok (.iadd, 1) := by decide +kernel
theorem dL_feeds_63 : decode cL_feeds 63 = .ok (.invokevirtual 31, 3) := by decide +kernel
theorem dL_feeds_66 : decode cL_feeds 66 = .ok (.goto 5, 3) := by decide +kernel
theorem dL_feeds_69 : decode cL_feeds 69 = .ok (.bipush 32, 2) := by decide +kernel
theorem dL_feeds_71 : decode cL_feeds 71 = .ok (.ior, 1) := by decide +kernel
theorem dL_feeds_72 : decode cL_feeds 72 = .ok (.iastore, 1) := by decide +kernel
theorem dL_feeds_73 : decode cL_feeds 73 = .ok (.iinc 5 1, 3) := by decide +kernel
theorem dL_feeds_76 : decode cL_feeds 76 = .ok (.goto (-52), 3) := by decide +kernel
theorem dL_feeds_79 : decode cL_feeds 79 = .ok (.aload_n 0, 1) := by decide +kernel
theorem dL_feeds_80 : decode cL_feeds 80 = .ok (.aload 4, 2) := by decide +kernel
theorem dL_feeds_82 : decode cL_feeds 82 = .ok (.iconst 0, 1) := by decide +kernel
theorem dL_feeds_83 : decode cL_feeds 83 = .ok (.iaload, 1) := by decide +kernel
theorem dL_feeds_84 : decode cL_feeds 84 = .ok (.aload 4, 2) := by decide +kernel
theorem dL_feeds_86 : decode cL_feeds 86 = .ok (.iconst 1, 1) := by decide +kernel
theorem dL_feeds_87 : decode cL_feeds 87 = .ok (.iaload, 1) := by decide +kernel
theorem dL_feeds_88 : decode cL_feeds 88 = .ok (.aload 4, 2) := by decide +kernel
theorem dL_feeds_90 : decode cL_feeds 90 = .ok (.iconst 2, 1) := by decide +kernel
theorem dL_feeds_91 : decode cL_feeds 91 = .ok (.iaload, 1) := by decide +kernel
theorem dL_feeds_92 : decode cL_feeds 92 = .ok (.aload 4, 2) := by decide +kernel
theorem dL_feeds_94 : decode cL_feeds 94 = .ok (.iconst 3, 1) := by decide +kernel
theorem dL_feeds_95 : decode cL_feeds 95 = .ok (.iaload, 1) := by decide +kernel
theorem dL_feeds_96 : decode cL_feeds 96 = .ok (.aload 4, 2) := by decide +kernel
theorem dL_feeds_98 : decode cL_feeds 98 = .ok (.iconst 4, 1) := by decide +kernel
theorem dL_feeds_99 : decode cL_feeds 99 = .ok (.iaload, 1) := by decide +kernel
theorem dL_feeds_100 : decode cL_feeds 100 = .ok (.invokevirtual 35, 3) := by decide +kernel
theorem dL_feeds_103 : decode cL_feeds 103 = .ok (.iload_n 3, 1) := by decide +kernel
theorem dL_feeds_104 : decode cL_feeds 104 = .ok (.bipush 20, 2) := by decide +kernel
theorem dL_feeds_106 : decode cL_feeds 106 = .ok (.iadd, 1) := by decide +kernel
theorem dL_feeds_107 : decode cL_feeds 107 = .ok (.if_icmp .eq 5, 3) := by decide +kernel
theorem dL_feeds_110 : decode cL_feeds 110 = .ok (.iconst 0, 1) := by decide +kernel
theorem dL_feeds_111 : decode cL_feeds 111 = .ok (.ireturn, 1) := by decide +kernel
theorem dL_feeds_112 : decode cL_feeds 112 = .ok (.iinc 3 20, 3) := by decide +kernel
theorem dL_feeds_115 : decode cL_feeds 115 = .ok (.goto (-107), 3) := by decide +kernel
theorem dL_feeds_118 : decode cL_feeds 118 = .ok (.iload_n 2, 1) := by decide +kernel
theorem dL_feeds_119 : decode cL_feeds 119 = .ok (.ifCond .ne 22, 3) := by decide +kernel
theorem dL_feeds_122 : decode cL_feeds 122 = .ok (.aload_n 0, 1) := by decide +kernel
theorem dL_feeds_123 : decode cL_feeds 123 = .ok (.aload_n 1, 1) := by decide +kernel
theorem dL_feeds_124 : decode cL_feeds 124 = .ok (.invokevirtual 25, 3) := by decide +kernel
theorem dL_feeds_127 : decode cL_feeds 127 = .ok (.invokevirtual 19, 3) := by decide +kernel
theorem dL_feeds_130 : decode cL_feeds 130 = .ok (.aload_n 1, 1) := by decide +kernel
theorem dL_feeds_131 : decode cL_feeds 131 = .ok (.invokevirtual 25, 3) := by decide +kernel
theorem dL_feeds_134 : decode cL_feeds 134 = .ok (.if_icmp .ne 7, 3) := by decide +kernel
theorem dL_feeds_137 : decode cL_feeds 137 = .ok (.iconst 1, 1) := by decide +kernel
theorem dL_feeds_138 : decode cL_feeds 138 = .ok (.goto 4, 3) := by decide +kernel
theorem dL_feeds_141 : decode cL_feeds 141 = .ok (.iconst 0, 1) := by decide +kernel
theorem dL_feeds_142 : decode cL_feeds 142 = .ok (.ireturn, 1) := by decide +kernel
theorem dL_draw_0 : decode cL_draw 0 = .ok (.aload_n 0, 1) := by decide +kernel
theorem dL_draw_1 : decode cL_draw 1 = .ok (.iconst 0, 1) := by decide +kernel
theorem dL_draw_2 : decode cL_draw 2 = .ok (.aload_n 0, 1) := by decide +kernel
theorem dL_draw_3 : decode cL_draw 3 = .ok (.iconst 0, 1) := by decide +kernel
theorem dL_draw_4 : decode cL_draw 4 = .ok (.iaload, 1) := by decide +kernel
theorem dL_draw_5 : decode cL_draw 5 = .ok (.ldc 39, 2) := by decide +kernel
theorem dL_draw_7 : decode cL_draw 7 = .ok (.imul, 1) := by decide +kernel
theorem dL_draw_8 : decode cL_draw 8 = .ok (.ldc 40, 2) := by decide +kernel
theorem dL_draw_10 : decode cL_draw 10 = .ok (.iadd, 1) := by decide +kernel
theorem dL_draw_11 : decode cL_draw 11 = .ok (.iastore, 1) := by decide +kernel
theorem dL_draw_12 : decode cL_draw 12 = .ok (.aload_n 0, 1) := by decide +kernel
theorem dL_draw_13 : decode cL_draw 13 = .ok (.iconst 0, 1) := by decide +kernel
theorem dL_draw_14 : decode cL_draw 14 = .ok (.iaload, 1) := by decide +kernel
theorem dL_draw_15 : decode cL_draw 15 = .ok (.bipush 8, 2) := by decide +kernel
theorem dL_draw_17 : decode cL_draw 17 = .ok (.iushr, 1) := by decide +kernel
theorem dL_draw_18 : decode cL_draw 18 = .ok (.iload_n 1, 1) := by decide +kernel
theorem dL_draw_19 : decode cL_draw 19 = .ok (.irem, 1) := by decide +kernel
theorem dL_draw_20 : decode cL_draw 20 = .ok (.ireturn, 1) := by decide +kernel
theorem dL_price_0 : decode cL_price 0 = .ok (.aload_n 0, 1) := by decide +kernel
theorem dL_price_1 : decode cL_price 1 = .ok (.getfield 41, 3) := by decide +kernel
theorem dL_price_4 : decode cL_price 4 = .ok (.iload_n 2, 1) := by decide +kernel
theorem dL_price_5 : decode cL_price 5 = .ok (.invokestatic 45, 3) := by decide +kernel
theorem dL_price_8 : decode cL_price 8 = .ok (.iadd, 1) := by decide +kernel
theorem dL_price_9 : decode cL_price 9 = .ok (.iconst 0, 1) := by decide +kernel
theorem dL_price_10 : decode cL_price 10 = .ok (.aload_n 1, 1) := by decide +kernel
theorem dL_price_11 : decode cL_price 11 = .ok (.iload_n 2, 1) := by decide +kernel
theorem dL_price_12 : decode cL_price 12 = .ok (.invokevirtual 50, 3) := by decide +kernel
theorem dL_price_15 : decode cL_price 15 = .ok (.invokestatic 55, 3) := by decide +kernel
theorem dL_price_18 : decode cL_price 18 = .ok (.iadd, 1) := by decide +kernel
theorem dL_price_19 : decode cL_price 19 = .ok (.ireturn, 1) := by decide +kernel
theorem dL_earns_0 : decode cL_earns 0 = .ok (.aload_n 0, 1) := by decide +kernel
theorem dL_earns_1 : decode cL_earns 1 = .ok (.getfield 59, 3) := by decide +kernel
theorem dL_earns_4 : decode cL_earns 4 = .ok (.aload_n 1, 1) := by decide +kernel
theorem dL_earns_5 : decode cL_earns 5 = .ok (.getfield 62, 3) := by decide +kernel
theorem dL_earns_8 : decode cL_earns 8 = .ok (.aload_n 1, 1) := by decide +kernel
theorem dL_earns_9 : decode cL_earns 9 = .ok (.getfield 68, 3) := by decide +kernel
theorem dL_earns_12 : decode cL_earns 12 = .ok (.invokevirtual 50, 3) := by decide +kernel
theorem dL_earns_15 : decode cL_earns 15 = .ok (.iadd, 1) := by decide +kernel
theorem dL_earns_16 : decode cL_earns 16 = .ok (.istore_n 2, 1) := by decide +kernel
theorem dL_earns_17 : decode cL_earns 17 = .ok (.iload_n 2, 1) := by decide +kernel
theorem dL_earns_18 : decode cL_earns 18 = .ok (.ifCond .le 14, 3) := by decide +kernel
theorem dL_earns_21 : decode cL_earns 21 = .ok (.iload_n 2, 1) := by decide +kernel
theorem dL_earns_22 : decode cL_earns 22 = .ok (.aload_n 0, 1) := by decide +kernel
theorem dL_earns_23 : decode cL_earns 23 = .ok (.getfield 71, 3) := by decide +kernel
theorem dL_earns_26 : decode cL_earns 26 = .ok (.invokestatic 74, 3) := by decide +kernel
theorem dL_earns_29 : decode cL_earns 29 = .ok (.goto 13, 3) := by decide +kernel
theorem dL_earns_32 : decode cL_earns 32 = .ok (.iload_n 2, 1) := by decide +kernel
theorem dL_earns_33 : decode cL_earns 33 = .ok (.ineg, 1) := by decide +kernel
theorem dL_earns_34 : decode cL_earns 34 = .ok (.aload_n 1, 1) := by decide +kernel
theorem dL_earns_35 : decode cL_earns 35 = .ok (.getfield 77, 3) := by decide +kernel
theorem dL_earns_38 : decode cL_earns 38 = .ok (.invokestatic 74, 3) := by decide +kernel
theorem dL_earns_41 : decode cL_earns 41 = .ok (.ineg, 1) := by decide +kernel
theorem dL_earns_42 : decode cL_earns 42 = .ok (.istore_n 3, 1) := by decide +kernel
theorem dL_earns_43 : decode cL_earns 43 = .ok (.aload_n 1, 1) := by decide +kernel
theorem dL_earns_44 : decode cL_earns 44 = .ok (.dup, 1) := by decide +kernel
theorem dL_earns_45 : decode cL_earns 45 = .ok (.getfield 77, 3) := by decide +kernel
theorem dL_earns_48 : decode cL_earns 48 = .ok (.iload_n 3, 1) := by decide +kernel
theorem dL_earns_49 : decode cL_earns 49 = .ok (.iadd, 1) := by decide +kernel
theorem dL_earns_50 : decode cL_earns 50 = .ok (.putfield 77, 3) := by decide +kernel
theorem dL_earns_53 : decode cL_earns 53 = .ok (.aload_n 0, 1) := by decide +kernel
theorem dL_earns_54 : decode cL_earns 54 = .ok (.dup, 1) := by decide +kernel
theorem dL_earns_55 : decode cL_earns 55 = .ok (.getfield 71, 3) := by decide +kernel
theorem dL_earns_58 : decode cL_earns 58 = .ok (.iload_n 3, 1) := by decide +kernel
theorem dL_earns_59 : decode cL_earns 59 = .ok (.isub, 1) := by decide +kernel
theorem dL_earns_60 : decode cL_earns 60 = .ok (.putfield 71, 3) := by decide +kernel
theorem dL_earns_63 : decode cL_earns 63 = .ok (.return_, 1) := by decide +kernel
theorem dL_pays_0 : decode cL_pays 0 = .ok (.iload_n 2, 1) := by decide +kernel
theorem dL_pays_1 : decode cL_pays 1 = .ok (.aload_n 1, 1) := by decide +kernel
theorem dL_pays_2 : decode cL_pays 2 = .ok (.getfield 77, 3) := by decide +kernel
theorem dL_pays_5 : decode cL_pays 5 = .ok (.invokestatic 74, 3) := by decide +kernel
theorem dL_pays_8 : decode cL_pays 8 = .ok (.istore_n 3, 1) := by decide +kernel
theorem dL_pays_9 : decode cL_pays 9 = .ok (.aload_n 1, 1) := by decide +kernel
theorem dL_pays_10 : decode cL_pays 10 = .ok (.dup, 1) := by decide +kernel
theorem dL_pays_11 : decode cL_pays 11 = .ok (.getfield 77, 3) := by decide +kernel
theorem dL_pays_14 : decode cL_pays 14 = .ok (.iload_n 3, 1) := by decide +kernel
theorem dL_pays_15 : decode cL_pays 15 = .ok (.isub, 1) := by decide +kernel
theorem dL_pays_16 : decode cL_pays 16 = .ok (.putfield 77, 3) := by decide +kernel
theorem dL_pays_19 : decode cL_pays 19 = .ok (.aload_n 0, 1) := by decide +kernel
theorem dL_pays_20 : decode cL_pays 20 = .ok (.dup, 1) := by decide +kernel
theorem dL_pays_21 : decode cL_pays 21 = .ok (.getfield 71, 3) := by decide +kernel
theorem dL_pays_24 : decode cL_pays 24 = .ok (.iload_n 3, 1) := by decide +kernel
theorem dL_pays_25 : decode cL_pays 25 = .ok (.iadd, 1) := by decide +kernel
theorem dL_pays_26 : decode cL_pays 26 = .ok (.putfield 71, 3) := by decide +kernel
theorem dL_pays_29 : decode cL_pays 29 = .ok (.return_, 1) := by decide +kernel
theorem dL_passes_0 : decode cL_passes 0 = .ok (.aload_n 0, 1) := by decide +kernel
theorem dL_passes_1 : decode cL_passes 1 = .ok (.dup, 1) := by decide +kernel
theorem dL_passes_2 : decode cL_passes 2 = .ok (.getfield 80, 3) := by decide +kernel
theorem dL_passes_5 : decode cL_passes 5 = .ok (.iconst 1, 1) := by decide +kernel
theorem dL_passes_6 : decode cL_passes 6 = .ok (.iadd, 1) := by decide +kernel
theorem dL_passes_7 : decode cL_passes 7 = .ok (.putfield 80, 3) := by decide +kernel
theorem dL_passes_10 : decode cL_passes 10 = .ok (.aload_n 0, 1) := by decide +kernel
theorem dL_passes_11 : decode cL_passes 11 = .ok (.getfield 83, 3) := by decide +kernel
theorem dL_passes_14 : decode cL_passes 14 = .ok (.istore_n 1, 1) := by decide +kernel
theorem dL_passes_15 : decode cL_passes 15 = .ok (.iconst 0, 1) := by decide +kernel
theorem dL_passes_16 : decode cL_passes 16 = .ok (.istore_n 2, 1) := by decide +kernel
theorem dL_passes_17 : decode cL_passes 17 = .ok (.iload_n 2, 1) := by decide +kernel
theorem dL_passes_18 : decode cL_passes 18 = .ok (.aload_n 0, 1) := by decide +kernel
theorem dL_passes_19 : decode cL_passes 19 = .ok (.getfield 16, 3) := by decide +kernel
theorem dL_passes_22 : decode cL_passes 22 = .ok (.invokeinterface 86 1, 5) := by decide +kernel
theorem dL_passes_27 : decode cL_passes 27 = .ok (.if_icmp .ge 45, 3) := by decide +kernel
theorem dL_passes_30 : decode cL_passes 30 = .ok (.aload_n 0, 1) := by decide +kernel
theorem dL_passes_31 : decode cL_passes 31 = .ok (.getfield 16, 3) := by decide +kernel
theorem dL_passes_34 : decode cL_passes 34 = .ok (.iload_n 2, 1) := by decide +kernel
theorem dL_passes_35 : decode cL_passes 35 = .ok (.invokeinterface 91 2, 5) := by decide +kernel
theorem dL_passes_40 : decode cL_passes 40 = .ok (.checkcast 63, 3) := by decide +kernel
theorem dL_passes_43 : decode cL_passes 43 = .ok (.getfield 62, 3) := by decide +kernel
theorem dL_passes_46 : decode cL_passes 46 = .ok (.ifnull 20, 3) := by decide +kernel
theorem dL_passes_49 : decode cL_passes 49 = .ok (.aload_n 0, 1) := by decide +kernel
theorem dL_passes_50 : decode cL_passes 50 = .ok (.aload_n 0, 1) := by decide +kernel
theorem dL_passes_51 : decode cL_passes 51 = .ok (.getfield 16, 3) := by decide +kernel
theorem dL_passes_54 : decode cL_passes 54 = .ok (.iload_n 2, 1) := by decide +kernel
theorem dL_passes_55 : decode cL_passes 55 = .ok (.invokeinterface 91 2, 5) := by decide +kernel
theorem dL_passes_60 : decode cL_passes 60 = .ok (.checkcast 63, 3) := by decide +kernel
theorem dL_passes_63 : decode cL_passes 63 = .ok (.invokevirtual 95, 3) := by decide +kernel
theorem dL_passes_66 : decode cL_passes 66 = .ok (.iinc 2 1, 3) := by decide +kernel
theorem dL_passes_69 : decode cL_passes 69 = .ok (.goto (-52), 3) := by decide +kernel
theorem dL_passes_72 : decode cL_passes 72 = .ok (.iconst 0, 1) := by decide +kernel
theorem dL_passes_73 : decode cL_passes 73 = .ok (.istore_n 2, 1) := by decide +kernel
theorem dL_passes_74 : decode cL_passes 74 = .ok (.iload_n 2, 1) := by decide +kernel
theorem dL_passes_75 : decode cL_passes 75 = .ok (.aload_n 0, 1) := by decide +kernel
theorem dL_passes_76 : decode cL_passes 76 = .ok (.getfield 16, 3) := by decide +kernel
theorem dL_passes_79 : decode cL_passes 79 = .ok (.invokeinterface 86 1, 5) := by decide +kernel
theorem dL_passes_84 : decode cL_passes 84 = .ok (.if_icmp .ge 69, 3) := by decide +kernel
theorem dL_passes_87 : decode cL_passes 87 = .ok (.aload_n 0, 1) := by decide +kernel
theorem dL_passes_88 : decode cL_passes 88 = .ok (.getfield 16, 3) := by decide +kernel
theorem dL_passes_91 : decode cL_passes 91 = .ok (.iload_n 2, 1) := by decide +kernel
theorem dL_passes_92 : decode cL_passes 92 = .ok (.invokeinterface 91 2, 5) := by decide +kernel
theorem dL_passes_97 : decode cL_passes 97 = .ok (.checkcast 63, 3) := by decide +kernel
theorem dL_passes_100 : decode cL_passes 100 = .ok (.astore_n 3, 1) := by decide +kernel
theorem dL_passes_101 : decode cL_passes 101 = .ok (.aload_n 3, 1) := by decide +kernel
theorem dL_passes_102 : decode cL_passes 102 = .ok (.getfield 99, 3) := by decide +kernel
theorem dL_passes_105 : decode cL_passes 105 = .ok (.ifCond .eq 42, 3) := by decide +kernel
theorem dL_passes_108 : decode cL_passes 108 = .ok (.aload_n 3, 1) := by decide +kernel
theorem dL_passes_109 : decode cL_passes 109 = .ok (.dup, 1) := by decide +kernel
theorem dL_passes_110 : decode cL_passes 110 = .ok (.getfield 103, 3) := by decide +kernel
theorem dL_passes_113 : decode cL_passes 113 = .ok (.iconst 1, 1) := by decide +kernel
theorem dL_passes_114 : decode cL_passes 114 = .ok (.iadd, 1) := by decide +kernel
theorem dL_passes_115 : decode cL_passes 115 = .ok (.dup_x1, 1) := by decide +kernel
theorem dL_passes_116 : decode cL_passes 116 = .ok (.putfield 103, 3) := by decide +kernel
theorem dL_passes_119 : decode cL_passes 119 = .ok (.aload_n 0, 1) := by decide +kernel
theorem dL_passes_120 : decode cL_passes 120 = .ok (.getfield 106, 3) := by decide +kernel
theorem dL_passes_123 : decode cL_passes 123 = .ok (.if_icmp .gt 6, 3) := by decide +kernel
theorem dL_passes_126 : decode cL_passes 126 = .ok (.goto 21, 3) := by decide +kernel
theorem dL_passes_129 : decode cL_passes 129 = .ok (.aload_n 3, 1) := by decide +kernel
theorem dL_passes_130 : decode cL_passes 130 = .ok (.invokevirtual 109, 3) := by decide +kernel
theorem dL_passes_133 : decode cL_passes 133 = .ok (.aload_n 0, 1) := by decide +kernel
theorem dL_passes_134 : decode cL_passes 134 = .ok (.aload_n 3, 1) := by decide +kernel
theorem dL_passes_135 : decode cL_passes 135 = .ok (.aload_n 3, 1) := by decide +kernel
theorem dL_passes_136 : decode cL_passes 136 = .ok (.getfield 77, 3) := by decide +kernel
theorem dL_passes_139 : decode cL_passes 139 = .ok (.invokevirtual 112, 3) := by decide +kernel
theorem dL_passes_142 : decode cL_passes 142 = .ok (.aload_n 3, 1) := by decide +kernel
theorem dL_passes_143 : decode cL_passes 143 = .ok (.iconst 0, 1) := by decide +kernel
theorem dL_passes_144 : decode cL_passes 144 = .ok (.putfield 99, 3) := by decide +kernel
theorem dL_passes_147 : decode cL_passes 147 = .ok (.iinc 2 1, 3) := by decide +kernel
theorem dL_passes_150 : decode cL_passes 150 = .ok (.goto (-76), 3) := by decide +kernel
theorem dL_passes_153 : decode cL_passes 153 = .ok (.iconst 0, 1) := by decide +kernel
theorem dL_passes_154 : decode cL_passes 154 = .ok (.istore_n 2, 1) := by decide +kernel
theorem dL_passes_155 : decode cL_passes 155 = .ok (.iload_n 2, 1) := by decide +kernel
theorem dL_passes_156 : decode cL_passes 156 = .ok (.aload_n 0, 1) := by decide +kernel
theorem dL_passes_157 : decode cL_passes 157 = .ok (.getfield 10, 3) := by decide +kernel
theorem dL_passes_160 : decode cL_passes 160 = .ok (.invokeinterface 86 1, 5) := by decide +kernel
theorem dL_passes_165 : decode cL_passes 165 = .ok (.if_icmp .ge 107, 3) := by decide +kernel
theorem dL_passes_168 : decode cL_passes 168 = .ok (.aload_n 0, 1) := by decide +kernel
theorem dL_passes_169 : decode cL_passes 169 = .ok (.getfield 10, 3) := by decide +kernel
theorem dL_passes_172 : decode cL_passes 172 = .ok (.iload_n 2, 1) := by decide +kernel
theorem dL_passes_173 : decode cL_passes 173 = .ok (.invokeinterface 91 2, 5) := by decide +kernel
theorem dL_passes_178 : decode cL_passes 178 = .ok (.checkcast 51, 3) := by decide +kernel
theorem dL_passes_181 : decode cL_passes 181 = .ok (.astore_n 3, 1) := by decide +kernel
theorem dL_passes_182 : decode cL_passes 182 = .ok (.aload_n 3, 1) := by decide +kernel
theorem dL_passes_183 : decode cL_passes 183 = .ok (.invokevirtual 116, 3) := by decide +kernel
theorem dL_passes_186 : decode cL_passes 186 = .ok (.invokestatic 45, 3) := by decide +kernel
theorem dL_passes_189 : decode cL_passes 189 = .ok (.aload_n 3, 1) := by decide +kernel
theorem dL_passes_190 : decode cL_passes 190 = .ok (.getfield 119, 3) := by decide +kernel
theorem dL_passes_193 : decode cL_passes 193 = .ok (.if_icmp .le 73, 3) := by decide +kernel
theorem dL_passes_196 : decode cL_passes 196 = .ok (.aload_n 3, 1) := by decide +kernel
theorem dL_passes_197 : decode cL_passes 197 = .ok (.invokevirtual 116, 3) := by decide +kernel
theorem dL_passes_200 : decode cL_passes 200 = .ok (.ifCond .le 21, 3) := by decide +kernel
theorem dL_passes_203 : decode cL_passes 203 = .ok (.aload_n 3, 1) := by decide +kernel
theorem dL_passes_204 : decode cL_passes 204 = .ok (.getfield 122, 3) := by decide +kernel
theorem dL_passes_207 : decode cL_passes 207 = .ok (.invokevirtual 126, 3) := by decide +kernel
theorem dL_passes_210 : decode cL_passes 210 = .ok (.invokeinterface 132 1, 5) := by decide +kernel
theorem dL_passes_215 : decode cL_passes 215 = .ok (.checkcast 63, 3) := by decide +kernel
theorem dL_passes_218 : decode cL_passes 218 = .ok (.goto 18, 3) := by decide +kernel
theorem dL_passes_221 : decode cL_passes 221 = .ok (.aload_n 3, 1) := by decide +kernel
theorem dL_passes_222 : decode cL_passes 222 = .ok (.getfield 122, 3) := by decide +kernel
theorem dL_passes_225 : decode cL_passes 225 = .ok (.invokevirtual 138, 3) := by decide +kernel
theorem dL_passes_228 : decode cL_passes 228 = .ok (.invokeinterface 132 1, 5) := by decide +kernel
theorem dL_passes_233 : decode cL_passes 233 = .ok (.checkcast 63, 3) := by decide +kernel
theorem dL_passes_236 : decode cL_passes 236 = .ok (.astore 4, 2) := by decide +kernel
theorem dL_passes_238 : decode cL_passes 238 = .ok (.aload 4, 2) := by decide +kernel
theorem dL_passes_240 : decode cL_passes 240 = .ok (.invokevirtual 109, 3) := by decide +kernel
theorem dL_passes_243 : decode cL_passes 243 = .ok (.aload_n 0, 1) := by decide +kernel
theorem dL_passes_244 : decode cL_passes 244 = .ok (.aload 4, 2) := by decide +kernel
theorem dL_passes_246 : decode cL_passes 246 = .ok (.aload_n 0, 1) := by decide +kernel
theorem dL_passes_247 : decode cL_passes 247 = .ok (.getfield 141, 3) := by decide +kernel
theorem dL_passes_250 : decode cL_passes 250 = .ok (.invokevirtual 112, 3) := by decide +kernel
theorem dL_passes_253 : decode cL_passes 253 = .ok (.aload_n 0, 1) := by decide +kernel
theorem dL_passes_254 : decode cL_passes 254 = .ok (.dup, 1) := by decide +kernel
theorem dL_passes_255 : decode cL_passes 255 = .ok (.getfield 83, 3) := by decide +kernel
theorem dL_passes_258 : decode cL_passes 258 = .ok (.iconst 1, 1) := by decide +kernel
theorem dL_passes_259 : decode cL_passes 259 = .ok (.iadd, 1) := by decide +kernel
theorem dL_passes_260 : decode cL_passes 260 = .ok (.putfield 83, 3) := by decide +kernel
theorem dL_passes_263 : decode cL_passes 263 = .ok (.goto (-81), 3) := by decide +kernel
theorem dL_passes_266 : decode cL_passes 266 = .ok (.iinc 2 1, 3) := by decide +kernel
theorem dL_passes_269 : decode cL_passes 269 = .ok (.goto (-114), 3) := by decide +kernel
theorem dL_passes_272 : decode cL_passes 272 = .ok (.aload_n 0, 1) := by decide +kernel
theorem dL_passes_273 : decode cL_passes 273 = .ok (.getfield 83, 3) := by decide +kernel
theorem dL_passes_276 : decode cL_passes 276 = .ok (.iload_n 1, 1) := by decide +kernel
theorem dL_passes_277 : decode cL_passes 277 = .ok (.isub, 1) := by decide +kernel
theorem dL_passes_278 : decode cL_passes 278 = .ok (.ireturn, 1) := by decide +kernel
theorem dL_against_0 : decode cL_against 0 = .ok (.aload_n 1, 1) := by decide +kernel
theorem dL_against_1 : decode cL_against 1 = .ok (.getfield 99, 3) := by decide +kernel
theorem dL_against_4 : decode cL_against 4 = .ok (.ifCond .ne 5, 3) := by decide +kernel
theorem dL_against_7 : decode cL_against 7 = .ok (.iconst 1, 1) := by decide +kernel
theorem dL_against_8 : decode cL_against 8 = .ok (.ireturn, 1) := by decide +kernel
theorem dL_against_9 : decode cL_against 9 = .ok (.aload_n 2, 1) := by decide +kernel
theorem dL_against_10 : decode cL_against 10 = .ok (.getfield 122, 3) := by decide +kernel
theorem dL_against_13 : decode cL_against 13 = .ok (.iload_n 3, 1) := by decide +kernel
theorem dL_against_14 : decode cL_against 14 = .ok (.invokestatic 144, 3) := by decide +kernel
theorem dL_against_17 : decode cL_against 17 = .ok (.invokevirtual 150, 3) := by decide +kernel
theorem dL_against_20 : decode cL_against 20 = .ok (.ifCond .eq 5, 3) := by decide +kernel
theorem dL_against_23 : decode cL_against 23 = .ok (.iconst 2, 1) := by decide +kernel
theorem dL_against_24 : decode cL_against 24 = .ok (.ireturn, 1) := by decide +kernel
theorem dL_against_25 : decode cL_against 25 = .ok (.aload_n 1, 1) := by decide +kernel
theorem dL_against_26 : decode cL_against 26 = .ok (.getfield 77, 3) := by decide +kernel
theorem dL_against_29 : decode cL_against 29 = .ok (.aload_n 0, 1) := by decide +kernel
theorem dL_against_30 : decode cL_against 30 = .ok (.aload_n 2, 1) := by decide +kernel
theorem dL_against_31 : decode cL_against 31 = .ok (.iload_n 3, 1) := by decide +kernel
theorem dL_against_32 : decode cL_against 32 = .ok (.invokevirtual 154, 3) := by decide +kernel
theorem dL_against_35 : decode cL_against 35 = .ok (.if_icmp .ge 5, 3) := by decide +kernel
theorem dL_against_38 : decode cL_against 38 = .ok (.iconst 3, 1) := by decide +kernel
theorem dL_against_39 : decode cL_against 39 = .ok (.ireturn, 1) := by decide +kernel
theorem dL_against_40 : decode cL_against 40 = .ok (.aload_n 2, 1) := by decide +kernel
theorem dL_against_41 : decode cL_against 41 = .ok (.invokevirtual 116, 3) := by decide +kernel
theorem dL_against_44 : decode cL_against 44 = .ok (.iload_n 3, 1) := by decide +kernel
theorem dL_against_45 : decode cL_against 45 = .ok (.aload_n 1, 1) := by decide +kernel
theorem dL_against_46 : decode cL_against 46 = .ok (.getfield 158, 3) := by decide +kernel
theorem dL_against_49 : decode cL_against 49 = .ok (.imul, 1) := by decide +kernel
theorem dL_against_50 : decode cL_against 50 = .ok (.iadd, 1) := by decide +kernel
theorem dL_against_51 : decode cL_against 51 = .ok (.aload_n 1, 1) := by decide +kernel
theorem dL_against_52 : decode cL_against 52 = .ok (.getfield 62, 3) := by decide +kernel
theorem dL_against_55 : decode cL_against 55 = .ok (.aload_n 2, 1) := by decide +kernel
theorem dL_against_56 : decode cL_against 56 = .ok (.if_acmp .ne 15, 3) := by decide +kernel
theorem dL_against_59 : decode cL_against 59 = .ok (.aload_n 1, 1) := by decide +kernel
theorem dL_against_60 : decode cL_against 60 = .ok (.getfield 68, 3) := by decide +kernel
theorem dL_against_63 : decode cL_against 63 = .ok (.aload_n 1, 1) := by decide +kernel
theorem dL_against_64 : decode cL_against 64 = .ok (.getfield 158, 3) := by decide +kernel
theorem dL_against_67 : decode cL_against 67 = .ok (.imul, 1) := by decide +kernel
theorem dL_against_68 : decode cL_against 68 = .ok (.goto 4, 3) := by decide +kernel
theorem dL_against_71 : decode cL_against 71 = .ok (.iconst 0, 1) := by decide +kernel
theorem dL_against_72 : decode cL_against 72 = .ok (.isub, 1) := by decide +kernel
theorem dL_against_73 : decode cL_against 73 = .ok (.istore 4, 2) := by decide +kernel
theorem dL_against_75 : decode cL_against 75 = .ok (.iload 4, 2) := by decide +kernel
theorem dL_against_77 : decode cL_against 77 = .ok (.invokestatic 45, 3) := by decide +kernel
theorem dL_against_80 : decode cL_against 80 = .ok (.aload_n 2, 1) := by decide +kernel
theorem dL_against_81 : decode cL_against 81 = .ok (.getfield 119, 3) := by decide +kernel
theorem dL_against_84 : decode cL_against 84 = .ok (.if_icmp .le 7, 3) := by decide +kernel
theorem dL_against_87 : decode cL_against 87 = .ok (.iconst 4, 1) := by decide +kernel
theorem dL_against_88 : decode cL_against 88 = .ok (.goto 4, 3) := by decide +kernel
theorem dL_against_91 : decode cL_against 91 = .ok (.iconst 0, 1) := by decide +kernel
theorem dL_against_92 : decode cL_against 92 = .ok (.ireturn, 1) := by decide +kernel
theorem dL_against__0 : decode cL_against_ 0 = .ok (.aload_n 1, 1) := by decide +kernel
theorem dL_against__1 : decode cL_against_ 1 = .ok (.getfield 62, 3) := by decide +kernel
theorem dL_against__4 : decode cL_against_ 4 = .ok (.ifnull 10, 3) := by decide +kernel
theorem dL_against__7 : decode cL_against_ 7 = .ok (.aload_n 2, 1) := by decide +kernel
theorem dL_against__8 : decode cL_against_ 8 = .ok (.getfield 62, 3) := by decide +kernel
theorem dL_against__11 : decode cL_against_ 11 = .ok (.ifnonnull 5, 3) := by decide +kernel
theorem dL_against__14 : decode cL_against_ 14 = .ok (.iconst 5, 1) := by decide +kernel
theorem dL_against__15 : decode cL_against_ 15 = .ok (.ireturn, 1) := by decide +kernel
theorem dL_against__16 : decode cL_against_ 16 = .ok (.aload_n 1, 1) := by decide +kernel
theorem dL_against__17 : decode cL_against_ 17 = .ok (.getfield 62, 3) := by decide +kernel
theorem dL_against__20 : decode cL_against_ 20 = .ok (.aload_n 2, 1) := by decide +kernel
theorem dL_against__21 : decode cL_against_ 21 = .ok (.getfield 62, 3) := by decide +kernel
theorem dL_against__24 : decode cL_against_ 24 = .ok (.if_acmp .eq 6, 3) := by decide +kernel
theorem dL_against__27 : decode cL_against_ 27 = .ok (.bipush 6, 2) := by decide +kernel
theorem dL_against__29 : decode cL_against_ 29 = .ok (.ireturn, 1) := by decide +kernel
theorem dL_against__30 : decode cL_against_ 30 = .ok (.aload_n 1, 1) := by decide +kernel
theorem dL_against__31 : decode cL_against_ 31 = .ok (.getfield 158, 3) := by decide +kernel
theorem dL_against__34 : decode cL_against_ 34 = .ok (.iload_n 3, 1) := by decide +kernel
theorem dL_against__35 : decode cL_against_ 35 = .ok (.if_icmp .le 14, 3) := by decide +kernel
theorem dL_against__38 : decode cL_against_ 38 = .ok (.aload_n 2, 1) := by decide +kernel
theorem dL_against__39 : decode cL_against_ 39 = .ok (.getfield 158, 3) := by decide +kernel
theorem dL_against__42 : decode cL_against_ 42 = .ok (.iload_n 3, 1) := by decide +kernel
theorem dL_against__43 : decode cL_against_ 43 = .ok (.iadd, 1) := by decide +kernel
theorem dL_against__44 : decode cL_against_ 44 = .ok (.bipush 99, 2) := by decide +kernel
theorem dL_against__46 : decode cL_against_ 46 = .ok (.if_icmp .le 6, 3) := by decide +kernel
theorem dL_against__49 : decode cL_against_ 49 = .ok (.bipush 7, 2) := by decide +kernel
theorem dL_against__51 : decode cL_against_ 51 = .ok (.ireturn, 1) := by decide +kernel
theorem dL_against__52 : decode cL_against_ 52 = .ok (.aload_n 2, 1) := by decide +kernel
theorem dL_against__53 : decode cL_against_ 53 = .ok (.getfield 77, 3) := by decide +kernel
theorem dL_against__56 : decode cL_against_ 56 = .ok (.iload_n 3, 1) := by decide +kernel
theorem dL_against__57 : decode cL_against_ 57 = .ok (.aload_n 0, 1) := by decide +kernel
theorem dL_against__58 : decode cL_against_ 58 = .ok (.aload_n 1, 1) := by decide +kernel
theorem dL_against__59 : decode cL_against_ 59 = .ok (.aload_n 2, 1) := by decide +kernel
theorem dL_against__60 : decode cL_against_ 60 = .ok (.invokevirtual 161, 3) := by decide +kernel
theorem dL_against__63 : decode cL_against_ 63 = .ok (.imul, 1) := by decide +kernel
theorem dL_against__64 : decode cL_against_ 64 = .ok (.if_icmp .ge 5, 3) := by decide +kernel
theorem dL_against__67 : decode cL_against_ 67 = .ok (.iconst 3, 1) := by decide +kernel
theorem dL_against__68 : decode cL_against_ 68 = .ok (.ireturn, 1) := by decide +kernel
theorem dL_against__69 : decode cL_against_ 69 = .ok (.aload_n 1, 1) := by decide +kernel
theorem dL_against__70 : decode cL_against_ 70 = .ok (.getfield 62, 3) := by decide +kernel
theorem dL_against__73 : decode cL_against_ 73 = .ok (.invokevirtual 116, 3) := by decide +kernel
theorem dL_against__76 : decode cL_against_ 76 = .ok (.aload_n 1, 1) := by decide +kernel
theorem dL_against__77 : decode cL_against_ 77 = .ok (.getfield 68, 3) := by decide +kernel
theorem dL_against__80 : decode cL_against_ 80 = .ok (.iload_n 3, 1) := by decide +kernel
theorem dL_against__81 : decode cL_against_ 81 = .ok (.imul, 1) := by decide +kernel
theorem dL_against__82 : decode cL_against_ 82 = .ok (.isub, 1) := by decide +kernel
theorem dL_against__83 : decode cL_against_ 83 = .ok (.aload_n 2, 1) := by decide +kernel
theorem dL_against__84 : decode cL_against_ 84 = .ok (.getfield 68, 3) := by decide +kernel
theorem dL_against__87 : decode cL_against_ 87 = .ok (.iload_n 3, 1) := by decide +kernel
theorem dL_against__88 : decode cL_against_ 88 = .ok (.imul, 1) := by decide +kernel
theorem dL_against__89 : decode cL_against_ 89 = .ok (.iadd, 1) := by decide +kernel
theorem dL_against__90 : decode cL_against_ 90 = .ok (.istore 4, 2) := by decide +kernel
theorem dL_against__92 : decode cL_against_ 92 = .ok (.iload 4, 2) := by decide +kernel
theorem dL_against__94 : decode cL_against_ 94 = .ok (.invokestatic 45, 3) := by decide +kernel
theorem dL_against__97 : decode cL_against_ 97 = .ok (.aload_n 1, 1) := by decide +kernel
theorem dL_against__98 : decode cL_against_ 98 = .ok (.getfield 62, 3) := by decide +kernel
theorem dL_against__101 : decode cL_against_ 101 = .ok (.getfield 119, 3) := by decide +kernel
theorem dL_against__104 : decode cL_against_ 104 = .ok (.if_icmp .le 7, 3) := by decide +kernel
theorem dL_against__107 : decode cL_against_ 107 = .ok (.iconst 4, 1) := by decide +kernel
theorem dL_against__108 : decode cL_against_ 108 = .ok (.goto 4, 3) := by decide +kernel
theorem dL_against__111 : decode cL_against_ 111 = .ok (.iconst 0, 1) := by decide +kernel
theorem dL_against__112 : decode cL_against_ 112 = .ok (.ireturn, 1) := by decide +kernel
theorem dL_unit_0 : decode cL_unit 0 = .ok (.iconst 1, 1) := by decide +kernel
theorem dL_unit_1 : decode cL_unit 1 = .ok (.aload_n 0, 1) := by decide +kernel
theorem dL_unit_2 : decode cL_unit 2 = .ok (.getfield 165, 3) := by decide +kernel
theorem dL_unit_5 : decode cL_unit 5 = .ok (.aload_n 2, 1) := by decide +kernel
theorem dL_unit_6 : decode cL_unit 6 = .ok (.getfield 62, 3) := by decide +kernel
theorem dL_unit_9 : decode cL_unit 9 = .ok (.aload_n 2, 1) := by decide +kernel
theorem dL_unit_10 : decode cL_unit 10 = .ok (.getfield 68, 3) := by decide +kernel
theorem dL_unit_13 : decode cL_unit 13 = .ok (.invokevirtual 50, 3) := by decide +kernel
theorem dL_unit_16 : decode cL_unit 16 = .ok (.iadd, 1) := by decide +kernel
theorem dL_unit_17 : decode cL_unit 17 = .ok (.aload_n 1, 1) := by decide +kernel
theorem dL_unit_18 : decode cL_unit 18 = .ok (.getfield 62, 3) := by decide +kernel
theorem dL_unit_21 : decode cL_unit 21 = .ok (.aload_n 1, 1) := by decide +kernel
theorem dL_unit_22 : decode cL_unit 22 = .ok (.getfield 68, 3) := by decide +kernel
theorem dL_unit_25 : decode cL_unit 25 = .ok (.invokevirtual 50, 3) := by decide +kernel
theorem dL_unit_28 : decode cL_unit 28 = .ok (.isub, 1) := by decide +kernel
theorem dL_unit_29 : decode cL_unit 29 = .ok (.invokestatic 55, 3) := by decide +kernel
theorem dL_unit_32 : decode cL_unit 32 = .ok (.ireturn, 1) := by decide +kernel
theorem dL_more_0 : decode cL_more 0 = .ok (.aload_n 1, 1) := by decide +kernel
theorem dL_more_1 : decode cL_more 1 = .ok (.getfield 62, 3) := by decide +kernel
theorem dL_more_4 : decode cL_more 4 = .ok (.aload_n 1, 1) := by decide +kernel
theorem dL_more_5 : decode cL_more 5 = .ok (.getfield 68, 3) := by decide +kernel
theorem dL_more_8 : decode cL_more 8 = .ok (.invokevirtual 50, 3) := by decide +kernel
theorem dL_more_11 : decode cL_more 11 = .ok (.aload_n 0, 1) := by decide +kernel
theorem dL_more_12 : decode cL_more 12 = .ok (.getfield 62, 3) := by decide +kernel
theorem dL_more_15 : decode cL_more 15 = .ok (.aload_n 0, 1) := by decide +kernel
theorem dL_more_16 : decode cL_more 16 = .ok (.getfield 68, 3) := by decide +kernel
theorem dL_more_19 : decode cL_more 19 = .ok (.invokevirtual 50, 3) := by decide +kernel
theorem dL_more_22 : decode cL_more 22 = .ok (.isub, 1) := by decide +kernel
theorem dL_more_23 : decode cL_more 23 = .ok (.ireturn, 1) := by decide +kernel
theorem dL_exchange_0 : decode cL_exchange 0 = .ok (.aload_n 0, 1) := by decide +kernel
theorem dL_exchange_1 : decode cL_exchange 1 = .ok (.getfield 62, 3) := by decide +kernel
theorem dL_exchange_4 : decode cL_exchange 4 = .ok (.astore_n 2, 1) := by decide +kernel
theorem dL_exchange_5 : decode cL_exchange 5 = .ok (.aload_n 0, 1) := by decide +kernel
theorem dL_exchange_6 : decode cL_exchange 6 = .ok (.getfield 68, 3) := by decide +kernel
theorem dL_exchange_9 : decode cL_exchange 9 = .ok (.istore_n 3, 1) := by decide +kernel
theorem dL_exchange_10 : decode cL_exchange 10 = .ok (.aload_n 1, 1) := by decide +kernel
theorem dL_exchange_11 : decode cL_exchange 11 = .ok (.getfield 62, 3) := by decide +kernel
theorem dL_exchange_14 : decode cL_exchange 14 = .ok (.astore 4, 2) := by decide +kernel
theorem dL_exchange_16 : decode cL_exchange 16 = .ok (.aload_n 1, 1) := by decide +kernel
theorem dL_exchange_17 : decode cL_exchange 17 = .ok (.getfield 68, 3) := by decide +kernel
theorem dL_exchange_20 : decode cL_exchange 20 = .ok (.istore 5, 2) := by decide +kernel
theorem dL_exchange_22 : decode cL_exchange 22 = .ok (.aload_n 0, 1) := by decide +kernel
theorem dL_exchange_23 : decode cL_exchange 23 = .ok (.invokevirtual 109, 3) := by decide +kernel
theorem dL_exchange_26 : decode cL_exchange 26 = .ok (.aload_n 1, 1) := by decide +kernel
theorem dL_exchange_27 : decode cL_exchange 27 = .ok (.invokevirtual 109, 3) := by decide +kernel
theorem dL_exchange_30 : decode cL_exchange 30 = .ok (.aload_n 0, 1) := by decide +kernel
theorem dL_exchange_31 : decode cL_exchange 31 = .ok (.aload 4, 2) := by decide +kernel
theorem dL_exchange_33 : decode cL_exchange 33 = .ok (.iload 5, 2) := by decide +kernel
theorem dL_exchange_35 : decode cL_exchange 35 = .ok (.invokevirtual 168, 3) := by decide +kernel
theorem dL_exchange_38 : decode cL_exchange 38 = .ok (.aload_n 1, 1) := by decide +kernel
theorem dL_exchange_39 : decode cL_exchange 39 = .ok (.aload_n 2, 1) := by decide +kernel
theorem dL_exchange_40 : decode cL_exchange 40 = .ok (.iload_n 3, 1) := by decide +kernel
theorem dL_exchange_41 : decode cL_exchange 41 = .ok (.invokevirtual 168, 3) := by decide +kernel
theorem dL_exchange_44 : decode cL_exchange 44 = .ok (.return_, 1) := by decide +kernel
theorem dL_against___0 : decode cL_against__ 0 = .ok (.aload_n 0, 1) := by decide +kernel
theorem dL_against___1 : decode cL_against__ 1 = .ok (.getfield 62, 3) := by decide +kernel
theorem dL_against___4 : decode cL_against__ 4 = .ok (.ifnull 10, 3) := by decide +kernel
theorem dL_against___7 : decode cL_against__ 7 = .ok (.aload_n 1, 1) := by decide +kernel
theorem dL_against___8 : decode cL_against__ 8 = .ok (.getfield 62, 3) := by decide +kernel
theorem dL_against___11 : decode cL_against__ 11 = .ok (.ifnonnull 5, 3) := by decide +kernel
theorem dL_against___14 : decode cL_against__ 14 = .ok (.iconst 5, 1) := by decide +kernel
theorem dL_against___15 : decode cL_against__ 15 = .ok (.ireturn, 1) := by decide +kernel
theorem dL_against___16 : decode cL_against__ 16 = .ok (.aload_n 0, 1) := by decide +kernel
theorem dL_against___17 : decode cL_against__ 17 = .ok (.aload_n 1, 1) := by decide +kernel
theorem dL_against___18 : decode cL_against__ 18 = .ok (.invokestatic 172, 3) := by decide +kernel
theorem dL_against___21 : decode cL_against__ 21 = .ok (.istore_n 2, 1) := by decide +kernel
theorem dL_against___22 : decode cL_against__ 22 = .ok (.iload_n 2, 1) := by decide +kernel
theorem dL_against___23 : decode cL_against__ 23 = .ok (.ifCond .le 7, 3) := by decide +kernel
theorem dL_against___26 : decode cL_against__ 26 = .ok (.aload_n 0, 1) := by decide +kernel
theorem dL_against___27 : decode cL_against__ 27 = .ok (.goto 4, 3) := by decide +kernel
theorem dL_against___30 : decode cL_against__ 30 = .ok (.aload_n 1, 1) := by decide +kernel
theorem dL_against___31 : decode cL_against__ 31 = .ok (.getfield 77, 3) := by decide +kernel
theorem dL_against___34 : decode cL_against__ 34 = .ok (.iload_n 2, 1) := by decide +kernel
theorem dL_against___35 : decode cL_against__ 35 = .ok (.invokestatic 45, 3) := by decide +kernel
theorem dL_against___38 : decode cL_against__ 38 = .ok (.if_icmp .ge 5, 3) := by decide +kernel
theorem dL_against___41 : decode cL_against__ 41 = .ok (.iconst 3, 1) := by decide +kernel
theorem dL_against___42 : decode cL_against__ 42 = .ok (.ireturn, 1) := by decide +kernel
theorem dL_against___43 : decode cL_against__ 43 = .ok (.aload_n 0, 1) := by decide +kernel
theorem dL_against___44 : decode cL_against__ 44 = .ok (.aload_n 1, 1) := by decide +kernel
theorem dL_against___45 : decode cL_against__ 45 = .ok (.invokestatic 175, 3) := by decide +kernel
theorem dL_against___48 : decode cL_against__ 48 = .ok (.aload_n 0, 1) := by decide +kernel
theorem dL_against___49 : decode cL_against__ 49 = .ok (.getfield 62, 3) := by decide +kernel
theorem dL_against___52 : decode cL_against__ 52 = .ok (.invokevirtual 116, 3) := by decide +kernel
theorem dL_against___55 : decode cL_against__ 55 = .ok (.invokestatic 45, 3) := by decide +kernel
theorem dL_against___58 : decode cL_against__ 58 = .ok (.aload_n 0, 1) := by decide +kernel
theorem dL_against___59 : decode cL_against__ 59 = .ok (.getfield 62, 3) := by decide +kernel
theorem dL_against___62 : decode cL_against__ 62 = .ok (.getfield 119, 3) := by decide +kernel
theorem dL_against___65 : decode cL_against__ 65 = .ok (.if_icmp .gt 23, 3) := by decide +kernel
theorem dL_against___68 : decode cL_against__ 68 = .ok (.aload_n 1, 1) := by decide +kernel
theorem dL_against___69 : decode cL_against__ 69 = .ok (.getfield 62, 3) := by decide +kernel
theorem dL_against___72 : decode cL_against__ 72 = .ok (.invokevirtual 116, 3) := by decide +kernel
theorem dL_against___75 : decode cL_against__ 75 = .ok (.invokestatic 45, 3) := by decide +kernel
theorem dL_against___78 : decode cL_against__ 78 = .ok (.aload_n 1, 1) := by decide +kernel
theorem dL_against___79 : decode cL_against__ 79 = .ok (.getfield 62, 3) := by decide +kernel
theorem dL_against___82 : decode cL_against__ 82 = .ok (.getfield 119, 3) := by decide +kernel
theorem dL_against___85 : decode cL_against__ 85 = .ok (.if_icmp .le 7, 3) := by decide +kernel
theorem dL_against___88 : decode cL_against__ 88 = .ok (.iconst 1, 1) := by decide +kernel
theorem dL_against___89 : decode cL_against__ 89 = .ok (.goto 4, 3) := by decide +kernel
theorem dL_against___92 : decode cL_against__ 92 = .ok (.iconst 0, 1) := by decide +kernel
theorem dL_against___93 : decode cL_against__ 93 = .ok (.istore_n 3, 1) := by decide +kernel
theorem dL_against___94 : decode cL_against__ 94 = .ok (.aload_n 0, 1) := by decide +kernel
theorem dL_against___95 : decode cL_against__ 95 = .ok (.aload_n 1, 1) := by decide +kernel
theorem dL_against___96 : decode cL_against__ 96 = .ok (.invokestatic 175, 3) := by decide +kernel
theorem dL_against___99 : decode cL_against__ 99 = .ok (.iload_n 3, 1) := by decide +kernel
theorem dL_against___100 : decode cL_against__ 100 = .ok (.ifCond .eq 7, 3) := by decide +kernel
theorem dL_against___103 : decode cL_against__ 103 = .ok (.iconst 4, 1) := by decide +kernel
theorem dL_against___104 : decode cL_against__ 104 = .ok (.goto 4, 3) := by decide +kernel
theorem dL_against___107 : decode cL_against__ 107 = .ok (.iconst 0, 1) := by decide +kernel
theorem dL_against___108 : decode cL_against__ 108 = .ok (.ireturn, 1) := by decide +kernel
theorem dL_begins_0 : decode cL_begins 0 = .ok (.new 11, 3) := by decide +kernel
theorem dL_begins_3 : decode cL_begins 3 = .ok (.dup, 1) := by decide +kernel
theorem dL_begins_4 : decode cL_begins 4 = .ok (.invokespecial 192, 3) := by decide +kernel
theorem dL_begins_7 : decode cL_begins 7 = .ok (.astore_n 2, 1) := by decide +kernel
theorem dL_begins_8 : decode cL_begins 8 = .ok (.aload_n 2, 1) := by decide +kernel
theorem dL_begins_9 : decode cL_begins 9 = .ok (.aload_n 1, 1) := by decide +kernel
theorem dL_begins_10 : decode cL_begins 10 = .ok (.bipush 8, 2) := by decide +kernel
theorem dL_begins_12 : decode cL_begins 12 = .ok (.invokestatic 193, 3) := by decide +kernel
theorem dL_begins_15 : decode cL_begins 15 = .ok (.putfield 59, 3) := by decide +kernel
theorem dL_begins_18 : decode cL_begins 18 = .ok (.aload_n 2, 1) := by decide +kernel
theorem dL_begins_19 : decode cL_begins 19 = .ok (.aload_n 1, 1) := by decide +kernel
theorem dL_begins_20 : decode cL_begins 20 = .ok (.bipush 9, 2) := by decide +kernel
theorem dL_begins_22 : decode cL_begins 22 = .ok (.invokestatic 193, 3) := by decide +kernel
theorem dL_begins_25 : decode cL_begins 25 = .ok (.putfield 41, 3) := by decide +kernel
theorem dL_begins_28 : decode cL_begins 28 = .ok (.aload_n 2, 1) := by decide +kernel
theorem dL_begins_29 : decode cL_begins 29 = .ok (.aload_n 1, 1) := by decide +kernel
theorem dL_begins_30 : decode cL_begins 30 = .ok (.bipush 6, 2) := by decide +kernel
theorem dL_begins_32 : decode cL_begins 32 = .ok (.invokestatic 193, 3) := by decide +kernel
theorem dL_begins_35 : decode cL_begins 35 = .ok (.putfield 165, 3) := by decide +kernel
theorem dL_begins_38 : decode cL_begins 38 = .ok (.aload_n 2, 1) := by decide +kernel
theorem dL_begins_39 : decode cL_begins 39 = .ok (.bipush 8, 2) := by decide +kernel
theorem dL_begins_41 : decode cL_begins 41 = .ok (.aload_n 1, 1) := by decide +kernel
theorem dL_begins_42 : decode cL_begins 42 = .ok (.bipush 30, 2) := by decide +kernel
theorem dL_begins_44 : decode cL_begins 44 = .ok (.invokestatic 193, 3) := by decide +kernel
theorem dL_begins_47 : decode cL_begins 47 = .ok (.iadd, 1) := by decide +kernel
theorem dL_begins_48 : decode cL_begins 48 = .ok (.putfield 106, 3) := by decide +kernel
theorem dL_begins_51 : decode cL_begins 51 = .ok (.aload_n 2, 1) := by decide +kernel
theorem dL_begins_52 : decode cL_begins 52 = .ok (.aload_n 1, 1) := by decide +kernel
theorem dL_begins_53 : decode cL_begins 53 = .ok (.bipush 12, 2) := by decide +kernel
theorem dL_begins_55 : decode cL_begins 55 = .ok (.invokestatic 193, 3) := by decide +kernel
theorem dL_begins_58 : decode cL_begins 58 = .ok (.putfield 141, 3) := by decide +kernel
theorem dL_begins_61 : decode cL_begins 61 = .ok (.aload_n 2, 1) := by decide +kernel
theorem dL_begins_62 : decode cL_begins 62 = .ok (.aload_n 1, 1) := by decide +kernel
theorem dL_begins_63 : decode cL_begins 63 = .ok (.sipush 200, 3) := by decide +kernel
theorem dL_begins_66 : decode cL_begins 66 = .ok (.invokestatic 193, 3) := by decide +kernel
theorem dL_begins_69 : decode cL_begins 69 = .ok (.putfield 71, 3) := by decide +kernel
theorem dL_begins_72 : decode cL_begins 72 = .ok (.new 197, 3) := by decide +kernel
theorem dL_begins_75 : decode cL_begins 75 = .ok (.dup, 1) := by decide +kernel
theorem dL_begins_76 : decode cL_begins 76 = .ok (.ldc 199, 2) := by decide +kernel
theorem dL_begins_78 : decode cL_begins 78 = .ok (.invokespecial 201, 3) := by decide +kernel
theorem dL_begins_81 : decode cL_begins 81 = .ok (.aload_n 2, 1) := by decide +kernel
theorem dL_begins_82 : decode cL_begins 82 = .ok (.getfield 59, 3) := by decide +kernel
theorem dL_begins_85 : decode cL_begins 85 = .ok (.invokevirtual 204, 3) := by decide +kernel
theorem dL_begins_88 : decode cL_begins 88 = .ok (.bipush 32, 2) := by decide +kernel
theorem dL_begins_90 : decode cL_begins 90 = .ok (.invokevirtual 207, 3) := by decide +kernel
theorem dL_begins_93 : decode cL_begins 93 = .ok (.aload_n 2, 1) := by decide +kernel
theorem dL_begins_94 : decode cL_begins 94 = .ok (.getfield 41, 3) := by decide +kernel
theorem dL_begins_97 : decode cL_begins 97 = .ok (.invokevirtual 204, 3) := by decide +kernel
theorem dL_begins_100 : decode cL_begins 100 = .ok (.bipush 32, 2) := by decide +kernel
theorem dL_begins_102 : decode cL_begins 102 = .ok (.invokevirtual 207, 3) := by decide +kernel
theorem dL_begins_105 : decode cL_begins 105 = .ok (.aload_n 2, 1) := by decide +kernel
theorem dL_begins_106 : decode cL_begins 106 = .ok (.getfield 165, 3) := by decide +kernel
theorem dL_begins_109 : decode cL_begins 109 = .ok (.invokevirtual 204, 3) := by decide +kernel
theorem dL_begins_112 : decode cL_begins 112 = .ok (.bipush 32, 2) := by decide +kernel
theorem dL_begins_114 : decode cL_begins 114 = .ok (.invokevirtual 207, 3) := by decide +kernel
theorem dL_begins_117 : decode cL_begins 117 = .ok (.aload_n 2, 1) := by decide +kernel
theorem dL_begins_118 : decode cL_begins 118 = .ok (.getfield 106, 3) := by decide +kernel
theorem dL_begins_121 : decode cL_begins 121 = .ok (.invokevirtual 204, 3) := by decide +kernel
theorem dL_begins_124 : decode cL_begins 124 = .ok (.bipush 32, 2) := by decide +kernel
theorem dL_begins_126 : decode cL_begins 126 = .ok (.invokevirtual 207, 3) := by decide +kernel
theorem dL_begins_129 : decode cL_begins 129 = .ok (.aload_n 2, 1) := by decide +kernel
theorem dL_begins_130 : decode cL_begins 130 = .ok (.getfield 141, 3) := by decide +kernel
theorem dL_begins_133 : decode cL_begins 133 = .ok (.invokevirtual 204, 3) := by decide +kernel
theorem dL_begins_136 : decode cL_begins 136 = .ok (.bipush 32, 2) := by decide +kernel
theorem dL_begins_138 : decode cL_begins 138 = .ok (.invokevirtual 207, 3) := by decide +kernel
theorem dL_begins_141 : decode cL_begins 141 = .ok (.aload_n 2, 1) := by decide +kernel
theorem dL_begins_142 : decode cL_begins 142 = .ok (.getfield 71, 3) := by decide +kernel
theorem dL_begins_145 : decode cL_begins 145 = .ok (.invokevirtual 204, 3) := by decide +kernel
theorem dL_begins_148 : decode cL_begins 148 = .ok (.bipush 59, 2) := by decide +kernel
theorem dL_begins_150 : decode cL_begins 150 = .ok (.invokevirtual 207, 3) := by decide +kernel
theorem dL_begins_153 : decode cL_begins 153 = .ok (.astore_n 3, 1) := by decide +kernel
theorem dL_begins_154 : decode cL_begins 154 = .ok (.iconst 1, 1) := by decide +kernel
theorem dL_begins_155 : decode cL_begins 155 = .ok (.aload_n 1, 1) := by decide +kernel
theorem dL_begins_156 : decode cL_begins 156 = .ok (.iconst 3, 1) := by decide +kernel
theorem dL_begins_157 : decode cL_begins 157 = .ok (.invokestatic 193, 3) := by decide +kernel
theorem dL_begins_160 : decode cL_begins 160 = .ok (.iadd, 1) := by decide +kernel
theorem dL_begins_161 : decode cL_begins 161 = .ok (.istore 4, 2) := by decide +kernel
theorem dL_begins_163 : decode cL_begins 163 = .ok (.iload 4, 2) := by decide +kernel
theorem dL_begins_165 : decode cL_begins 165 = .ok (.ifCond .le 110, 3) := by decide +kernel
theorem dL_begins_168 : decode cL_begins 168 = .ok (.new 51, 3) := by decide +kernel
theorem dL_begins_171 : decode cL_begins 171 = .ok (.dup, 1) := by decide +kernel
theorem dL_begins_172 : decode cL_begins 172 = .ok (.aload_n 2, 1) := by decide +kernel
theorem dL_begins_173 : decode cL_begins 173 = .ok (.getfield 10, 3) := by decide +kernel
theorem dL_begins_176 : decode cL_begins 176 = .ok (.invokeinterface 86 1, 5) := by decide +kernel
theorem dL_begins_181 : decode cL_begins 181 = .ok (.iconst 1, 1) := by decide +kernel
theorem dL_begins_182 : decode cL_begins 182 = .ok (.aload_n 1, 1) := by decide +kernel
theorem dL_begins_183 : decode cL_begins 183 = .ok (.iconst 5, 1) := by decide +kernel
theorem dL_begins_184 : decode cL_begins 184 = .ok (.invokestatic 193, 3) := by decide +kernel
theorem dL_begins_187 : decode cL_begins 187 = .ok (.iadd, 1) := by decide +kernel
theorem dL_begins_188 : decode cL_begins 188 = .ok (.iconst 2, 1) := by decide +kernel
theorem dL_begins_189 : decode cL_begins 189 = .ok (.aload_n 1, 1) := by decide +kernel
theorem dL_begins_190 : decode cL_begins 190 = .ok (.bipush 15, 2) := by decide +kernel
theorem dL_begins_192 : decode cL_begins 192 = .ok (.invokestatic 193, 3) := by decide +kernel
theorem dL_begins_195 : decode cL_begins 195 = .ok (.iadd, 1) := by decide +kernel
theorem dL_begins_196 : decode cL_begins 196 = .ok (.bipush 10, 2) := by decide +kernel
theorem dL_begins_198 : decode cL_begins 198 = .ok (.aload_n 1, 1) := by decide +kernel
theorem dL_begins_199 : decode cL_begins 199 = .ok (.bipush 60, 2) := by decide +kernel
theorem dL_begins_201 : decode cL_begins 201 = .ok (.invokestatic 193, 3) := by decide +kernel
theorem dL_begins_204 : decode cL_begins 204 = .ok (.iadd, 1) := by decide +kernel
theorem dL_begins_205 : decode cL_begins 205 = .ok (.invokespecial 210, 3) := by decide +kernel
theorem dL_begins_208 : decode cL_begins 208 = .ok (.astore 5, 2) := by decide +kernel
theorem dL_begins_210 : decode cL_begins 210 = .ok (.aload_n 2, 1) := by decide +kernel
theorem dL_begins_211 : decode cL_begins 211 = .ok (.getfield 10, 3) := by decide +kernel
theorem dL_begins_214 : decode cL_begins 214 = .ok (.aload 5, 2) := by decide +kernel
theorem dL_begins_216 : decode cL_begins 216 = .ok (.invokeinterface 213 2, 5) := by decide +kernel
theorem dL_begins_221 : decode cL_begins 221 = .ok (.istore 6, 2) := by decide +kernel
theorem dL_begins_223 : decode cL_begins 223 = .ok (.aload_n 3, 1) := by decide +kernel
theorem dL_begins_224 : decode cL_begins 224 = .ok (.ldc 216, 2) := by decide +kernel
theorem dL_begins_226 : decode cL_begins 226 = .ok (.invokevirtual 218, 3) := by decide +kernel
theorem dL_begins_229 : decode cL_begins 229 = .ok (.aload 5, 2) := by decide +kernel
theorem dL_begins_231 : decode cL_begins 231 = .ok (.getfield 221, 3) := by decide +kernel
theorem dL_begins_234 : decode cL_begins 234 = .ok (.invokevirtual 204, 3) := by decide +kernel
theorem dL_begins_237 : decode cL_begins 237 = .ok (.bipush 32, 2) := by decide +kernel
theorem dL_begins_239 : decode cL_begins 239 = .ok (.invokevirtual 207, 3) := by decide +kernel
theorem dL_begins_242 : decode cL_begins 242 = .ok (.aload 5, 2) := by decide +kernel
theorem dL_begins_244 : decode cL_begins 244 = .ok (.getfield 224, 3) := by decide +kernel
theorem dL_begins_247 : decode cL_begins 247 = .ok (.invokevirtual 204, 3) := by decide +kernel
theorem dL_begins_250 : decode cL_begins 250 = .ok (.bipush 32, 2) := by decide +kernel
theorem dL_begins_252 : decode cL_begins 252 = .ok (.invokevirtual 207, 3) := by decide +kernel
theorem dL_begins_255 : decode cL_begins 255 = .ok (.aload 5, 2) := by decide +kernel
theorem dL_begins_257 : decode cL_begins 257 = .ok (.getfield 119, 3) := by decide +kernel
theorem dL_begins_260 : decode cL_begins 260 = .ok (.invokevirtual 204, 3) := by decide +kernel
theorem dL_begins_263 : decode cL_begins 263 = .ok (.bipush 59, 2) := by decide +kernel
theorem dL_begins_265 : decode cL_begins 265 = .ok (.invokevirtual 207, 3) := by decide +kernel
theorem dL_begins_268 : decode cL_begins 268 = .ok (.pop, 1) := by decide +kernel
theorem dL_begins_269 : decode cL_begins 269 = .ok (.iinc 4 (-1), 3) := by decide +kernel
theorem dL_begins_272 : decode cL_begins 272 = .ok (.goto (-109), 3) := by decide +kernel
theorem dL_begins_275 : decode cL_begins 275 = .ok (.iconst 2, 1) := by decide +kernel
theorem dL_begins_276 : decode cL_begins 276 = .ok (.aload_n 1, 1) := by decide +kernel
theorem dL_begins_277 : decode cL_begins 277 = .ok (.bipush 6, 2) := by decide +kernel
theorem dL_begins_279 : decode cL_begins 279 = .ok (.invokestatic 193, 3) := by decide +kernel
theorem dL_begins_282 : decode cL_begins 282 = .ok (.iadd, 1) := by decide +kernel
theorem dL_begins_283 : decode cL_begins 283 = .ok (.istore 4, 2) := by decide +kernel
theorem dL_begins_285 : decode cL_begins 285 = .ok (.iload 4, 2) := by decide +kernel
theorem dL_begins_287 : decode cL_begins 287 = .ok (.ifCond .le 127, 3) := by decide +kernel
theorem dL_begins_290 : decode cL_begins 290 = .ok (.new 63, 3) := by decide +kernel
theorem dL_begins_293 : decode cL_begins 293 = .ok (.dup, 1) := by decide +kernel
theorem dL_begins_294 : decode cL_begins 294 = .ok (.aload_n 2, 1) := by decide +kernel
theorem dL_begins_295 : decode cL_begins 295 = .ok (.getfield 16, 3) := by decide +kernel
theorem dL_begins_298 : decode cL_begins 298 = .ok (.invokeinterface 86 1, 5) := by decide +kernel
theorem dL_begins_303 : decode cL_begins 303 = .ok (.iconst 1, 1) := by decide +kernel
theorem dL_begins_304 : decode cL_begins 304 = .ok (.aload_n 1, 1) := by decide +kernel
theorem dL_begins_305 : decode cL_begins 305 = .ok (.bipush 20, 2) := by decide +kernel
theorem dL_begins_307 : decode cL_begins 307 = .ok (.invokestatic 193, 3) := by decide +kernel
theorem dL_begins_310 : decode cL_begins 310 = .ok (.iadd, 1) := by decide +kernel
theorem dL_begins_311 : decode cL_begins 311 = .ok (.aload_n 1, 1) := by decide +kernel
theorem dL_begins_312 : decode cL_begins 312 = .ok (.bipush 60, 2) := by decide +kernel
theorem dL_begins_314 : decode cL_begins 314 = .ok (.invokestatic 193, 3) := by decide +kernel
theorem dL_begins_317 : decode cL_begins 317 = .ok (.aload_n 1, 1) := by decide +kernel
theorem dL_begins_318 : decode cL_begins 318 = .ok (.aload_n 2, 1) := by decide +kernel
theorem dL_begins_319 : decode cL_begins 319 = .ok (.getfield 106, 3) := by decide +kernel
theorem dL_begins_322 : decode cL_begins 322 = .ok (.iconst 1, 1) := by decide +kernel
theorem dL_begins_323 : decode cL_begins 323 = .ok (.iadd, 1) := by decide +kernel
theorem dL_begins_324 : decode cL_begins 324 = .ok (.invokestatic 193, 3) := by decide +kernel
theorem dL_begins_327 : decode cL_begins 327 = .ok (.invokespecial 227, 3) := by decide +kernel
theorem dL_begins_330 : decode cL_begins 330 = .ok (.astore 5, 2) := by decide +kernel
theorem dL_begins_332 : decode cL_begins 332 = .ok (.aload_n 2, 1) := by decide +kernel
theorem dL_begins_333 : decode cL_begins 333 = .ok (.getfield 16, 3) := by decide +kernel
theorem dL_begins_336 : decode cL_begins 336 = .ok (.aload 5, 2) := by decide +kernel
theorem dL_begins_338 : decode cL_begins 338 = .ok (.invokeinterface 213 2, 5) := by decide +kernel
theorem dL_begins_343 : decode cL_begins 343 = .ok (.istore 6, 2) := by decide +kernel
theorem dL_begins_345 : decode cL_begins 345 = .ok (.aload_n 3, 1) := by decide +kernel
theorem dL_begins_346 : decode cL_begins 346 = .ok (.ldc 228, 2) := by decide +kernel
theorem dL_begins_348 : decode cL_begins 348 = .ok (.invokevirtual 218, 3) := by decide +kernel
theorem dL_begins_351 : decode cL_begins 351 = .ok (.bipush 97, 2) := by decide +kernel
theorem dL_begins_353 : decode cL_begins 353 = .ok (.aload 5, 2) := by decide +kernel
theorem dL_begins_355 : decode cL_begins 355 = .ok (.getfield 230, 3) := by decide +kernel
theorem dL_begins_358 : decode cL_begins 358 = .ok (.iadd, 1) := by decide +kernel
theorem dL_begins_359 : decode cL_begins 359 = .ok (.i2c, 1) := by decide +kernel
theorem dL_begins_360 : decode cL_begins 360 = .ok (.invokevirtual 207, 3) := by decide +kernel
theorem dL_begins_363 : decode cL_begins 363 = .ok (.bipush 32, 2) := by decide +kernel
theorem dL_begins_365 : decode cL_begins 365 = .ok (.invokevirtual 207, 3) := by decide +kernel
theorem dL_begins_368 : decode cL_begins 368 = .ok (.aload 5, 2) := by decide +kernel
theorem dL_begins_370 : decode cL_begins 370 = .ok (.getfield 158, 3) := by decide +kernel
theorem dL_begins_373 : decode cL_begins 373 = .ok (.invokevirtual 204, 3) := by decide +kernel
theorem dL_begins_376 : decode cL_begins 376 = .ok (.bipush 32, 2) := by decide +kernel
theorem dL_begins_378 : decode cL_begins 378 = .ok (.invokevirtual 207, 3) := by decide +kernel
theorem dL_begins_381 : decode cL_begins 381 = .ok (.aload 5, 2) := by decide +kernel
theorem dL_begins_383 : decode cL_begins 383 = .ok (.getfield 77, 3) := by decide +kernel
theorem dL_begins_386 : decode cL_begins 386 = .ok (.invokevirtual 204, 3) := by decide +kernel
theorem dL_begins_389 : decode cL_begins 389 = .ok (.bipush 32, 2) := by decide +kernel
theorem dL_begins_391 : decode cL_begins 391 = .ok (.invokevirtual 207, 3) := by decide +kernel
theorem dL_begins_394 : decode cL_begins 394 = .ok (.aload 5, 2) := by decide +kernel
theorem dL_begins_396 : decode cL_begins 396 = .ok (.getfield 103, 3) := by decide +kernel
theorem dL_begins_399 : decode cL_begins 399 = .ok (.invokevirtual 204, 3) := by decide +kernel
theorem dL_begins_402 : decode cL_begins 402 = .ok (.bipush 59, 2) := by decide +kernel
theorem dL_begins_404 : decode cL_begins 404 = .ok (.invokevirtual 207, 3) := by decide +kernel
theorem dL_begins_407 : decode cL_begins 407 = .ok (.pop, 1) := by decide +kernel
theorem dL_begins_408 : decode cL_begins 408 = .ok (.iinc 4 (-1), 3) := by decide +kernel
theorem dL_begins_411 : decode cL_begins 411 = .ok (.goto (-126), 3) := by decide +kernel
theorem dL_begins_414 : decode cL_begins 414 = .ok (.iconst 0, 1) := by decide +kernel
theorem dL_begins_415 : decode cL_begins 415 = .ok (.istore 4, 2) := by decide +kernel
theorem dL_begins_417 : decode cL_begins 417 = .ok (.iload 4, 2) := by decide +kernel
theorem dL_begins_419 : decode cL_begins 419 = .ok (.aload_n 2, 1) := by decide +kernel
theorem dL_begins_420 : decode cL_begins 420 = .ok (.getfield 16, 3) := by decide +kernel
theorem dL_begins_423 : decode cL_begins 423 = .ok (.invokeinterface 86 1, 5) := by decide +kernel
theorem dL_begins_428 : decode cL_begins 428 = .ok (.if_icmp .ge 149, 3) := by decide +kernel
theorem dL_begins_431 : decode cL_begins 431 = .ok (.aload_n 2, 1) := by decide +kernel
theorem dL_begins_432 : decode cL_begins 432 = .ok (.getfield 10, 3) := by decide +kernel
theorem dL_begins_435 : decode cL_begins 435 = .ok (.aload_n 1, 1) := by decide +kernel
theorem dL_begins_436 : decode cL_begins 436 = .ok (.aload_n 2, 1) := by decide +kernel
theorem dL_begins_437 : decode cL_begins 437 = .ok (.getfield 10, 3) := by decide +kernel
theorem dL_begins_440 : decode cL_begins 440 = .ok (.invokeinterface 86 1, 5) := by decide +kernel
theorem dL_begins_445 : decode cL_begins 445 = .ok (.invokestatic 193, 3) := by decide +kernel
theorem dL_begins_448 : decode cL_begins 448 = .ok (.invokeinterface 91 2, 5) := by decide +kernel
theorem dL_begins_453 : decode cL_begins 453 = .ok (.checkcast 51, 3) := by decide +kernel
theorem dL_begins_456 : decode cL_begins 456 = .ok (.astore 5, 2) := by decide +kernel
theorem dL_begins_458 : decode cL_begins 458 = .ok (.aload 5, 2) := by decide +kernel
theorem dL_begins_460 : decode cL_begins 460 = .ok (.aload_n 1, 1) := by decide +kernel
theorem dL_begins_461 : decode cL_begins 461 = .ok (.invokestatic 233, 3) := by decide +kernel
theorem dL_begins_464 : decode cL_begins 464 = .ok (.istore 6, 2) := by decide +kernel
theorem dL_begins_466 : decode cL_begins 466 = .ok (.aload_n 1, 1) := by decide +kernel
theorem dL_begins_467 : decode cL_begins 467 = .ok (.iconst 4, 1) := by decide +kernel
theorem dL_begins_468 : decode cL_begins 468 = .ok (.invokestatic 193, 3) := by decide +kernel
theorem dL_begins_471 : decode cL_begins 471 = .ok (.ifCond .eq 100, 3) := by decide +kernel
theorem dL_begins_474 : decode cL_begins 474 = .ok (.aload 5, 2) := by decide +kernel
theorem dL_begins_476 : decode cL_begins 476 = .ok (.getfield 122, 3) := by decide +kernel
theorem dL_begins_479 : decode cL_begins 479 = .ok (.iload 6, 2) := by decide +kernel
theorem dL_begins_481 : decode cL_begins 481 = .ok (.invokestatic 144, 3) := by decide +kernel
theorem dL_begins_484 : decode cL_begins 484 = .ok (.invokevirtual 150, 3) := by decide +kernel
theorem dL_begins_487 : decode cL_begins 487 = .ok (.ifCond .eq 6, 3) := by decide +kernel
theorem dL_begins_490 : decode cL_begins 490 = .ok (.goto 81, 3) := by decide +kernel
theorem dL_begins_493 : decode cL_begins 493 = .ok (.aload_n 2, 1) := by decide +kernel
theorem dL_begins_494 : decode cL_begins 494 = .ok (.getfield 16, 3) := by decide +kernel
theorem dL_begins_497 : decode cL_begins 497 = .ok (.iload 4, 2) := by decide +kernel
theorem dL_begins_499 : decode cL_begins 499 = .ok (.invokeinterface 91 2, 5) := by decide +kernel
theorem dL_begins_504 : decode cL_begins 504 = .ok (.checkcast 63, 3) := by decide +kernel
theorem dL_begins_507 : decode cL_begins 507 = .ok (.aload 5, 2) := by decide +kernel
theorem dL_begins_509 : decode cL_begins 509 = .ok (.iload 6, 2) := by decide +kernel
theorem dL_begins_511 : decode cL_begins 511 = .ok (.invokevirtual 168, 3) := by decide +kernel
theorem dL_begins_514 : decode cL_begins 514 = .ok (.aload_n 3, 1) := by decide +kernel
theorem dL_begins_515 : decode cL_begins 515 = .ok (.ldc 236, 2) := by decide +kernel
theorem dL_begins_517 : decode cL_begins 517 = .ok (.invokevirtual 218, 3) := by decide +kernel
theorem dL_begins_520 : decode cL_begins 520 = .ok (.bipush 97, 2) := by decide +kernel
theorem dL_begins_522 : decode cL_begins 522 = .ok (.iload 4, 2) := by decide +kernel
theorem dL_begins_524 : decode cL_begins 524 = .ok (.iadd, 1) := by decide +kernel
theorem dL_begins_525 : decode cL_begins 525 = .ok (.i2c, 1) := by decide +kernel
theorem dL_begins_526 : decode cL_begins 526 = .ok (.invokevirtual 207, 3) := by decide +kernel
theorem dL_begins_529 : decode cL_begins 529 = .ok (.bipush 32, 2) := by decide +kernel
theorem dL_begins_531 : decode cL_begins 531 = .ok (.invokevirtual 207, 3) := by decide +kernel
theorem dL_begins_534 : decode cL_begins 534 = .ok (.aload 5, 2) := by decide +kernel
theorem dL_begins_536 : decode cL_begins 536 = .ok (.getfield 238, 3) := by decide +kernel
theorem dL_begins_539 : decode cL_begins 539 = .ok (.invokevirtual 204, 3) := by decide +kernel
theorem dL_begins_542 : decode cL_begins 542 = .ok (.iload 6, 2) := by decide +kernel
theorem dL_begins_544 : decode cL_begins 544 = .ok (.ifCond .ge 8, 3) := by decide +kernel
theorem dL_begins_547 : decode cL_begins 547 = .ok (.ldc 239, 2) := by decide +kernel
theorem dL_begins_549 : decode cL_begins 549 = .ok (.goto 5, 3) := by decide +kernel
theorem dL_begins_552 : decode cL_begins 552 = .ok (.ldc 241, 2) := by decide +kernel
theorem dL_begins_554 : decode cL_begins 554 = .ok (.invokevirtual 218, 3) := by decide +kernel
theorem dL_begins_557 : decode cL_begins 557 = .ok (.iload 6, 2) := by decide +kernel
theorem dL_begins_559 : decode cL_begins 559 = .ok (.invokestatic 45, 3) := by decide +kernel
theorem dL_begins_562 : decode cL_begins 562 = .ok (.invokevirtual 204, 3) := by decide +kernel
theorem dL_begins_565 : decode cL_begins 565 = .ok (.bipush 59, 2) := by decide +kernel
theorem dL_begins_567 : decode cL_begins 567 = .ok (.invokevirtual 207, 3) := by decide +kernel
theorem dL_begins_570 : decode cL_begins 570 = .ok (.pop, 1) := by decide +kernel
theorem dL_begins_571 : decode cL_begins 571 = .ok (.iinc 4 1, 3) := by decide +kernel
theorem dL_begins_574 : decode cL_begins 574 = .ok (.goto (-157), 3) := by decide +kernel
theorem dL_begins_577 : decode cL_begins 577 = .ok (.aload_n 0, 1) := by decide +kernel
theorem dL_begins_578 : decode cL_begins 578 = .ok (.aload_n 3, 1) := by decide +kernel
theorem dL_begins_579 : decode cL_begins 579 = .ok (.invokevirtual 243, 3) := by decide +kernel
theorem dL_begins_582 : decode cL_begins 582 = .ok (.invokestatic 247, 3) := by decide +kernel
theorem dL_begins_585 : decode cL_begins 585 = .ok (.ifCond .eq 22, 3) := by decide +kernel
theorem dL_begins_588 : decode cL_begins 588 = .ok (.aload_n 0, 1) := by decide +kernel
theorem dL_begins_589 : decode cL_begins 589 = .ok (.invokevirtual 251, 3) := by decide +kernel
theorem dL_begins_592 : decode cL_begins 592 = .ok (.ifCond .ne 15, 3) := by decide +kernel
theorem dL_begins_595 : decode cL_begins 595 = .ok (.aload_n 0, 1) := by decide +kernel
theorem dL_begins_596 : decode cL_begins 596 = .ok (.invokevirtual 254, 3) := by decide +kernel
theorem dL_begins_599 : decode cL_begins 599 = .ok (.iconst (-1), 1) := by decide +kernel
theorem dL_begins_600 : decode cL_begins 600 = .ok (.if_icmp .ne 7, 3) := by decide +kernel
theorem dL_begins_603 : decode cL_begins 603 = .ok (.aload_n 2, 1) := by decide +kernel
theorem dL_begins_604 : decode cL_begins 604 = .ok (.goto 4, 3) := by decide +kernel
theorem dL_begins_607 : decode cL_begins 607 = .ok (.aconst_null, 1) := by decide +kernel
theorem dL_begins_608 : decode cL_begins 608 = .ok (.areturn, 1) := by decide +kernel
theorem dL_position_0 : decode cL_position 0 = .ok (.iconst 1, 1) := by decide +kernel
theorem dL_position_1 : decode cL_position 1 = .ok (.aload_n 1, 1) := by decide +kernel
theorem dL_position_2 : decode cL_position 2 = .ok (.aload_n 0, 1) := by decide +kernel
theorem dL_position_3 : decode cL_position 3 = .ok (.getfield 221, 3) := by decide +kernel
theorem dL_position_6 : decode cL_position 6 = .ok (.invokestatic 193, 3) := by decide +kernel
theorem dL_position_9 : decode cL_position 9 = .ok (.iadd, 1) := by decide +kernel
theorem dL_position_10 : decode cL_position 10 = .ok (.istore_n 2, 1) := by decide +kernel
theorem dL_position_11 : decode cL_position 11 = .ok (.aload_n 1, 1) := by decide +kernel
theorem dL_position_12 : decode cL_position 12 = .ok (.iconst 2, 1) := by decide +kernel
theorem dL_position_13 : decode cL_position 13 = .ok (.invokestatic 193, 3) := by decide +kernel
theorem dL_position_16 : decode cL_position 16 = .ok (.ifCond .ne 7, 3) := by decide +kernel
theorem dL_position_19 : decode cL_position 19 = .ok (.iload_n 2, 1) := by decide +kernel
theorem dL_position_20 : decode cL_position 20 = .ok (.goto 5, 3) := by decide +kernel
theorem dL_position_23 : decode cL_position 23 = .ok (.iload_n 2, 1) := by decide +kernel
theorem dL_position_24 : decode cL_position 24 = .ok (.ineg, 1) := by decide +kernel
theorem dL_position_25 : decode cL_position 25 = .ok (.ireturn, 1) := by decide +kernel
theorem dL_still_0 : decode cL_still 0 = .ok (.aload_n 0, 1) := by decide +kernel
theorem dL_still_1 : decode cL_still 1 = .ok (.invokevirtual 257, 3) := by decide +kernel
theorem dL_still_4 : decode cL_still 4 = .ok (.ifCond .ne 58, 3) := by decide +kernel
theorem dL_still_7 : decode cL_still 7 = .ok (.aload_n 0, 1) := by decide +kernel
theorem dL_still_8 : decode cL_still 8 = .ok (.invokevirtual 260, 3) := by decide +kernel
theorem dL_still_11 : decode cL_still 11 = .ok (.aload_n 1, 1) := by decide +kernel
theorem dL_still_12 : decode cL_still 12 = .ok (.getfield 80, 3) := by decide +kernel
theorem dL_still_15 : decode cL_still 15 = .ok (.if_icmp .ne 47, 3) := by decide +kernel
theorem dL_still_18 : decode cL_still 18 = .ok (.aload_n 0, 1) := by decide +kernel
theorem dL_still_19 : decode cL_still 19 = .ok (.invokevirtual 262, 3) := by decide +kernel
theorem dL_still_22 : decode cL_still 22 = .ok (.aload_n 1, 1) := by decide +kernel
theorem dL_still_23 : decode cL_still 23 = .ok (.getfield 71, 3) := by decide +kernel
theorem dL_still_26 : decode cL_still 26 = .ok (.if_icmp .ne 36, 3) := by decide +kernel
theorem dL_still_29 : decode cL_still 29 = .ok (.aload_n 0, 1) := by decide +kernel
theorem dL_still_30 : decode cL_still 30 = .ok (.invokevirtual 264, 3) := by decide +kernel
theorem dL_still_33 : decode cL_still 33 = .ok (.aload_n 1, 1) := by decide +kernel
theorem dL_still_34 : decode cL_still 34 = .ok (.getfield 267, 3) := by decide +kernel
theorem dL_still_37 : decode cL_still 37 = .ok (.if_icmp .ne 25, 3) := by decide +kernel
theorem dL_still_40 : decode cL_still 40 = .ok (.aload_n 0, 1) := by decide +kernel
theorem dL_still_41 : decode cL_still 41 = .ok (.invokevirtual 270, 3) := by decide +kernel
theorem dL_still_44 : decode cL_still 44 = .ok (.aload_n 1, 1) := by decide +kernel
theorem dL_still_45 : decode cL_still 45 = .ok (.getfield 273, 3) := by decide +kernel
theorem dL_still_48 : decode cL_still 48 = .ok (.if_icmp .ne 14, 3) := by decide +kernel
theorem dL_still_51 : decode cL_still 51 = .ok (.aload_n 0, 1) := by decide +kernel
theorem dL_still_52 : decode cL_still 52 = .ok (.invokevirtual 276, 3) := by decide +kernel
theorem dL_still_55 : decode cL_still 55 = .ok (.aload_n 1, 1) := by decide +kernel
theorem dL_still_56 : decode cL_still 56 = .ok (.getfield 83, 3) := by decide +kernel
theorem dL_still_59 : decode cL_still 59 = .ok (.if_icmp .eq 5, 3) := by decide +kernel
theorem dL_still_62 : decode cL_still 62 = .ok (.iconst 0, 1) := by decide +kernel
theorem dL_still_63 : decode cL_still 63 = .ok (.ireturn, 1) := by decide +kernel
theorem dL_still_64 : decode cL_still 64 = .ok (.iconst 0, 1) := by decide +kernel
theorem dL_still_65 : decode cL_still 65 = .ok (.istore_n 2, 1) := by decide +kernel
theorem dL_still_66 : decode cL_still 66 = .ok (.iload_n 2, 1) := by decide +kernel
theorem dL_still_67 : decode cL_still 67 = .ok (.aload_n 1, 1) := by decide +kernel
theorem dL_still_68 : decode cL_still 68 = .ok (.getfield 16, 3) := by decide +kernel
theorem dL_still_71 : decode cL_still 71 = .ok (.invokeinterface 86 1, 5) := by decide +kernel
theorem dL_still_76 : decode cL_still 76 = .ok (.if_icmp .ge 148, 3) := by decide +kernel
theorem dL_still_79 : decode cL_still 79 = .ok (.aload_n 1, 1) := by decide +kernel
theorem dL_still_80 : decode cL_still 80 = .ok (.getfield 16, 3) := by decide +kernel
theorem dL_still_83 : decode cL_still 83 = .ok (.iload_n 2, 1) := by decide +kernel
theorem dL_still_84 : decode cL_still 84 = .ok (.invokeinterface 91 2, 5) := by decide +kernel
theorem dL_still_89 : decode cL_still 89 = .ok (.checkcast 63, 3) := by decide +kernel
theorem dL_still_92 : decode cL_still 92 = .ok (.astore_n 3, 1) := by decide +kernel
theorem dL_still_93 : decode cL_still 93 = .ok (.aload_n 0, 1) := by decide +kernel
theorem dL_still_94 : decode cL_still 94 = .ok (.iload_n 2, 1) := by decide +kernel
theorem dL_still_95 : decode cL_still 95 = .ok (.invokevirtual 279, 3) := by decide +kernel
theorem dL_still_98 : decode cL_still 98 = .ok (.aload_n 3, 1) := by decide +kernel
theorem dL_still_99 : decode cL_still 99 = .ok (.getfield 158, 3) := by decide +kernel
theorem dL_still_102 : decode cL_still 102 = .ok (.if_icmp .ne 77, 3) := by decide +kernel
theorem dL_still_105 : decode cL_still 105 = .ok (.aload_n 0, 1) := by decide +kernel
theorem dL_still_106 : decode cL_still 106 = .ok (.iload_n 2, 1) := by decide +kernel
theorem dL_still_107 : decode cL_still 107 = .ok (.invokevirtual 282, 3) := by decide +kernel
theorem dL_still_110 : decode cL_still 110 = .ok (.aload_n 3, 1) := by decide +kernel
theorem dL_still_111 : decode cL_still 111 = .ok (.getfield 77, 3) := by decide +kernel
theorem dL_still_114 : decode cL_still 114 = .ok (.if_icmp .ne 65, 3) := by decide +kernel
theorem dL_still_117 : decode cL_still 117 = .ok (.aload_n 0, 1) := by decide +kernel
theorem dL_still_118 : decode cL_still 118 = .ok (.iload_n 2, 1) := by decide +kernel
theorem dL_still_119 : decode cL_still 119 = .ok (.invokevirtual 285, 3) := by decide +kernel
theorem dL_still_122 : decode cL_still 122 = .ok (.aload_n 3, 1) := by decide +kernel
theorem dL_still_123 : decode cL_still 123 = .ok (.getfield 103, 3) := by decide +kernel
theorem dL_still_126 : decode cL_still 126 = .ok (.if_icmp .ne 53, 3) := by decide +kernel
theorem dL_still_129 : decode cL_still 129 = .ok (.aload_n 0, 1) := by decide +kernel
theorem dL_still_130 : decode cL_still 130 = .ok (.iload_n 2, 1) := by decide +kernel
theorem dL_still_131 : decode cL_still 131 = .ok (.invokevirtual 288, 3) := by decide +kernel
theorem dL_still_134 : decode cL_still 134 = .ok (.aload_n 3, 1) := by decide +kernel
theorem dL_still_135 : decode cL_still 135 = .ok (.getfield 99, 3) := by decide +kernel
theorem dL_still_138 : decode cL_still 138 = .ok (.if_icmp .ne 41, 3) := by decide +kernel
theorem dL_still_141 : decode cL_still 141 = .ok (.aload_n 0, 1) := by decide +kernel
theorem dL_still_142 : decode cL_still 142 = .ok (.iload_n 2, 1) := by decide +kernel
theorem dL_still_143 : decode cL_still 143 = .ok (.invokevirtual 291, 3) := by decide +kernel
theorem dL_still_146 : decode cL_still 146 = .ok (.aload_n 3, 1) := by decide +kernel
theorem dL_still_147 : decode cL_still 147 = .ok (.getfield 68, 3) := by decide +kernel
theorem dL_still_150 : decode cL_still 150 = .ok (.if_icmp .ne 29, 3) := by decide +kernel
theorem dL_still_153 : decode cL_still 153 = .ok (.aload_n 0, 1) := by decide +kernel
theorem dL_still_154 : decode cL_still 154 = .ok (.iload_n 2, 1) := by decide +kernel
theorem dL_still_155 : decode cL_still 155 = .ok (.invokevirtual 294, 3) := by decide +kernel
theorem dL_still_158 : decode cL_still 158 = .ok (.aload_n 3, 1) := by decide +kernel
theorem dL_still_159 : decode cL_still 159 = .ok (.getfield 62, 3) := by decide +kernel
theorem dL_still_162 : decode cL_still 162 = .ok (.ifnonnull 7, 3) := by decide +kernel
theorem dL_still_165 : decode cL_still 165 = .ok (.iconst (-1), 1) := by decide +kernel
theorem dL_still_166 : decode cL_still 166 = .ok (.goto 10, 3) := by decide +kernel
theorem dL_still_169 : decode cL_still 169 = .ok (.aload_n 3, 1) := by decide +kernel
theorem dL_still_170 : decode cL_still 170 = .ok (.getfield 62, 3) := by decide +kernel
theorem dL_still_173 : decode cL_still 173 = .ok (.getfield 238, 3) := by decide +kernel
theorem dL_still_176 : decode cL_still 176 = .ok (.if_icmp .eq 5, 3) := by decide +kernel
theorem dL_still_179 : decode cL_still 179 = .ok (.iconst 0, 1) := by decide +kernel
theorem dL_still_180 : decode cL_still 180 = .ok (.ireturn, 1) := by decide +kernel
theorem dL_still_181 : decode cL_still 181 = .ok (.aload_n 0, 1) := by decide +kernel
theorem dL_still_182 : decode cL_still 182 = .ok (.iload_n 2, 1) := by decide +kernel
theorem dL_still_183 : decode cL_still 183 = .ok (.invokevirtual 297, 3) := by decide +kernel
theorem dL_still_186 : decode cL_still 186 = .ok (.aload_n 3, 1) := by decide +kernel
theorem dL_still_187 : decode cL_still 187 = .ok (.getfield 62, 3) := by decide +kernel
theorem dL_still_190 : decode cL_still 190 = .ok (.ifnonnull 7, 3) := by decide +kernel
theorem dL_still_193 : decode cL_still 193 = .ok (.iconst 0, 1) := by decide +kernel
theorem dL_still_194 : decode cL_still 194 = .ok (.goto 19, 3) := by decide +kernel
theorem dL_still_197 : decode cL_still 197 = .ok (.aload_n 1, 1) := by decide +kernel
theorem dL_still_198 : decode cL_still 198 = .ok (.getfield 59, 3) := by decide +kernel
theorem dL_still_201 : decode cL_still 201 = .ok (.aload_n 3, 1) := by decide +kernel
theorem dL_still_202 : decode cL_still 202 = .ok (.getfield 62, 3) := by decide +kernel
theorem dL_still_205 : decode cL_still 205 = .ok (.aload_n 3, 1) := by decide +kernel
theorem dL_still_206 : decode cL_still 206 = .ok (.getfield 68, 3) := by decide +kernel
theorem dL_still_209 : decode cL_still 209 = .ok (.invokevirtual 50, 3) := by decide +kernel
theorem dL_still_212 : decode cL_still 212 = .ok (.iadd, 1) := by decide +kernel
theorem dL_still_213 : decode cL_still 213 = .ok (.if_icmp .eq 5, 3) := by decide +kernel
theorem dL_still_216 : decode cL_still 216 = .ok (.iconst 0, 1) := by decide +kernel
theorem dL_still_217 : decode cL_still 217 = .ok (.ireturn, 1) := by decide +kernel
theorem dL_still_218 : decode cL_still 218 = .ok (.iinc 2 1, 3) := by decide +kernel
theorem dL_still_221 : decode cL_still 221 = .ok (.goto (-155), 3) := by decide +kernel
theorem dL_still_224 : decode cL_still 224 = .ok (.iconst 0, 1) := by decide +kernel
theorem dL_still_225 : decode cL_still 225 = .ok (.istore_n 2, 1) := by decide +kernel
theorem dL_still_226 : decode cL_still 226 = .ok (.iload_n 2, 1) := by decide +kernel
theorem dL_still_227 : decode cL_still 227 = .ok (.aload_n 1, 1) := by decide +kernel
theorem dL_still_228 : decode cL_still 228 = .ok (.getfield 10, 3) := by decide +kernel
theorem dL_still_231 : decode cL_still 231 = .ok (.invokeinterface 86 1, 5) := by decide +kernel
theorem dL_still_236 : decode cL_still 236 = .ok (.if_icmp .ge 155, 3) := by decide +kernel
theorem dL_still_239 : decode cL_still 239 = .ok (.aload_n 1, 1) := by decide +kernel
theorem dL_still_240 : decode cL_still 240 = .ok (.getfield 10, 3) := by decide +kernel
theorem dL_still_243 : decode cL_still 243 = .ok (.iload_n 2, 1) := by decide +kernel
theorem dL_still_244 : decode cL_still 244 = .ok (.invokeinterface 91 2, 5) := by decide +kernel
theorem dL_still_249 : decode cL_still 249 = .ok (.checkcast 51, 3) := by decide +kernel
theorem dL_still_252 : decode cL_still 252 = .ok (.astore_n 3, 1) := by decide +kernel
theorem dL_still_253 : decode cL_still 253 = .ok (.aload_n 0, 1) := by decide +kernel
theorem dL_still_254 : decode cL_still 254 = .ok (.iload_n 2, 1) := by decide +kernel
theorem dL_still_255 : decode cL_still 255 = .ok (.invokevirtual 300, 3) := by decide +kernel
theorem dL_still_258 : decode cL_still 258 = .ok (.aload_n 3, 1) := by decide +kernel
theorem dL_still_259 : decode cL_still 259 = .ok (.invokevirtual 116, 3) := by decide +kernel
theorem dL_still_262 : decode cL_still 262 = .ok (.if_icmp .ne 15, 3) := by decide +kernel
theorem dL_still_265 : decode cL_still 265 = .ok (.aload_n 0, 1) := by decide +kernel
theorem dL_still_266 : decode cL_still 266 = .ok (.iload_n 2, 1) := by decide +kernel
theorem dL_still_267 : decode cL_still 267 = .ok (.invokevirtual 302, 3) := by decide +kernel
theorem dL_still_270 : decode cL_still 270 = .ok (.aload_n 3, 1) := by decide +kernel
theorem dL_still_271 : decode cL_still 271 = .ok (.invokevirtual 305, 3) := by decide +kernel
theorem dL_still_274 : decode cL_still 274 = .ok (.if_icmp .eq 5, 3) := by decide +kernel
theorem dL_still_277 : decode cL_still 277 = .ok (.iconst 0, 1) := by decide +kernel
theorem dL_still_278 : decode cL_still 278 = .ok (.ireturn, 1) := by decide +kernel
theorem dL_still_279 : decode cL_still 279 = .ok (.aload_n 3, 1) := by decide +kernel
theorem dL_still_280 : decode cL_still 280 = .ok (.getfield 221, 3) := by decide +kernel
theorem dL_still_283 : decode cL_still 283 = .ok (.ineg, 1) := by decide +kernel
theorem dL_still_284 : decode cL_still 284 = .ok (.istore 4, 2) := by decide +kernel
theorem dL_still_286 : decode cL_still 286 = .ok (.iload 4, 2) := by decide +kernel
theorem dL_still_288 : decode cL_still 288 = .ok (.aload_n 3, 1) := by decide +kernel
theorem dL_still_289 : decode cL_still 289 = .ok (.getfield 221, 3) := by decide +kernel
theorem dL_still_292 : decode cL_still 292 = .ok (.if_icmp .gt 93, 3) := by decide +kernel
theorem dL_still_295 : decode cL_still 295 = .ok (.iload 4, 2) := by decide +kernel
theorem dL_still_297 : decode cL_still 297 = .ok (.ifCond .ne 6, 3) := by decide +kernel
theorem dL_still_300 : decode cL_still 300 = .ok (.goto 79, 3) := by decide +kernel
theorem dL_still_303 : decode cL_still 303 = .ok (.aload_n 3, 1) := by decide +kernel
theorem dL_still_304 : decode cL_still 304 = .ok (.getfield 122, 3) := by decide +kernel
theorem dL_still_307 : decode cL_still 307 = .ok (.iload 4, 2) := by decide +kernel
theorem dL_still_309 : decode cL_still 309 = .ok (.invokestatic 144, 3) := by decide +kernel
theorem dL_still_312 : decode cL_still 312 = .ok (.invokevirtual 307, 3) := by decide +kernel
theorem dL_still_315 : decode cL_still 315 = .ok (.checkcast 63, 3) := by decide +kernel
theorem dL_still_318 : decode cL_still 318 = .ok (.astore 5, 2) := by decide +kernel
theorem dL_still_320 : decode cL_still 320 = .ok (.aload_n 0, 1) := by decide +kernel
theorem dL_still_321 : decode cL_still 321 = .ok (.iload_n 2, 1) := by decide +kernel
theorem dL_still_322 : decode cL_still 322 = .ok (.iload 4, 2) := by decide +kernel
theorem dL_still_324 : decode cL_still 324 = .ok (.invokevirtual 310, 3) := by decide +kernel
theorem dL_still_327 : decode cL_still 327 = .ok (.aload 5, 2) := by decide +kernel
theorem dL_still_329 : decode cL_still 329 = .ok (.ifnonnull 7, 3) := by decide +kernel
theorem dL_still_332 : decode cL_still 332 = .ok (.iconst (-1), 1) := by decide +kernel
theorem dL_still_333 : decode cL_still 333 = .ok (.goto 8, 3) := by decide +kernel
theorem dL_still_336 : decode cL_still 336 = .ok (.aload 5, 2) := by decide +kernel
theorem dL_still_338 : decode cL_still 338 = .ok (.getfield 230, 3) := by decide +kernel
theorem dL_still_341 : decode cL_still 341 = .ok (.if_icmp .ne 36, 3) := by decide +kernel
theorem dL_still_344 : decode cL_still 344 = .ok (.aload_n 0, 1) := by decide +kernel
theorem dL_still_345 : decode cL_still 345 = .ok (.iload_n 2, 1) := by decide +kernel
theorem dL_still_346 : decode cL_still 346 = .ok (.iload 4, 2) := by decide +kernel
theorem dL_still_348 : decode cL_still 348 = .ok (.invokevirtual 313, 3) := by decide +kernel
theorem dL_still_351 : decode cL_still 351 = .ok (.aload_n 3, 1) := by decide +kernel
theorem dL_still_352 : decode cL_still 352 = .ok (.iload 4, 2) := by decide +kernel
theorem dL_still_354 : decode cL_still 354 = .ok (.invokevirtual 50, 3) := by decide +kernel
theorem dL_still_357 : decode cL_still 357 = .ok (.if_icmp .ne 20, 3) := by decide +kernel
theorem dL_still_360 : decode cL_still 360 = .ok (.aload_n 0, 1) := by decide +kernel
theorem dL_still_361 : decode cL_still 361 = .ok (.iload_n 2, 1) := by decide +kernel
theorem dL_still_362 : decode cL_still 362 = .ok (.iload 4, 2) := by decide +kernel
theorem dL_still_364 : decode cL_still 364 = .ok (.invokevirtual 316, 3) := by decide +kernel
theorem dL_still_367 : decode cL_still 367 = .ok (.aload_n 1, 1) := by decide +kernel
theorem dL_still_368 : decode cL_still 368 = .ok (.aload_n 3, 1) := by decide +kernel
theorem dL_still_369 : decode cL_still 369 = .ok (.iload 4, 2) := by decide +kernel
theorem dL_still_371 : decode cL_still 371 = .ok (.invokevirtual 154, 3) := by decide +kernel
theorem dL_still_374 : decode cL_still 374 = .ok (.if_icmp .eq 5, 3) := by decide +kernel
theorem dL_still_377 : decode cL_still 377 = .ok (.iconst 0, 1) := by decide +kernel
theorem dL_still_378 : decode cL_still 378 = .ok (.ireturn, 1) := by decide +kernel
theorem dL_still_379 : decode cL_still 379 = .ok (.iinc 4 1, 3) := by decide +kernel
theorem dL_still_382 : decode cL_still 382 = .ok (.goto (-96), 3) := by decide +kernel
theorem dL_still_385 : decode cL_still 385 = .ok (.iinc 2 1, 3) := by decide +kernel
theorem dL_still_388 : decode cL_still 388 = .ok (.goto (-162), 3) := by decide +kernel
theorem dL_still_391 : decode cL_still 391 = .ok (.iconst 1, 1) := by decide +kernel
theorem dL_still_392 : decode cL_still 392 = .ok (.ireturn, 1) := by decide +kernel
theorem dL_act_0 : decode cL_act 0 = .ok (.aload_n 2, 1) := by decide +kernel
theorem dL_act_1 : decode cL_act 1 = .ok (.aload_n 1, 1) := by decide +kernel
theorem dL_act_2 : decode cL_act 2 = .ok (.getfield 16, 3) := by decide +kernel
theorem dL_act_5 : decode cL_act 5 = .ok (.invokeinterface 86 1, 5) := by decide +kernel
theorem dL_act_10 : decode cL_act 10 = .ok (.invokestatic 193, 3) := by decide +kernel
theorem dL_act_13 : decode cL_act 13 = .ok (.istore_n 3, 1) := by decide +kernel
theorem dL_act_14 : decode cL_act 14 = .ok (.aload_n 1, 1) := by decide +kernel
theorem dL_act_15 : decode cL_act 15 = .ok (.getfield 16, 3) := by decide +kernel
theorem dL_act_18 : decode cL_act 18 = .ok (.iload_n 3, 1) := by decide +kernel
theorem dL_act_19 : decode cL_act 19 = .ok (.invokeinterface 91 2, 5) := by decide +kernel
theorem dL_act_24 : decode cL_act 24 = .ok (.checkcast 63, 3) := by decide +kernel
theorem dL_act_27 : decode cL_act 27 = .ok (.astore 4, 2) := by decide +kernel
theorem dL_act_29 : decode cL_act 29 = .ok (.iload_n 3, 1) := by decide +kernel
theorem dL_act_30 : decode cL_act 30 = .ok (.iconst 1, 1) := by decide +kernel
theorem dL_act_31 : decode cL_act 31 = .ok (.iadd, 1) := by decide +kernel
theorem dL_act_32 : decode cL_act 32 = .ok (.aload_n 2, 1) := by decide +kernel
theorem dL_act_33 : decode cL_act 33 = .ok (.aload_n 1, 1) := by decide +kernel
theorem dL_act_34 : decode cL_act 34 = .ok (.getfield 16, 3) := by decide +kernel
theorem dL_act_37 : decode cL_act 37 = .ok (.invokeinterface 86 1, 5) := by decide +kernel
theorem dL_act_42 : decode cL_act 42 = .ok (.iconst 1, 1) := by decide +kernel
theorem dL_act_43 : decode cL_act 43 = .ok (.isub, 1) := by decide +kernel
theorem dL_act_44 : decode cL_act 44 = .ok (.invokestatic 193, 3) := by decide +kernel
theorem dL_act_47 : decode cL_act 47 = .ok (.iadd, 1) := by decide +kernel
theorem dL_act_48 : decode cL_act 48 = .ok (.aload_n 1, 1) := by decide +kernel
theorem dL_act_49 : decode cL_act 49 = .ok (.getfield 16, 3) := by decide +kernel
theorem dL_act_52 : decode cL_act 52 = .ok (.invokeinterface 86 1, 5) := by decide +kernel
theorem dL_act_57 : decode cL_act 57 = .ok (.irem, 1) := by decide +kernel
theorem dL_act_58 : decode cL_act 58 = .ok (.istore 5, 2) := by decide +kernel
theorem dL_act_60 : decode cL_act 60 = .ok (.aload_n 1, 1) := by decide +kernel
theorem dL_act_61 : decode cL_act 61 = .ok (.getfield 16, 3) := by decide +kernel
theorem dL_act_64 : decode cL_act 64 = .ok (.iload 5, 2) := by decide +kernel
theorem dL_act_66 : decode cL_act 66 = .ok (.invokeinterface 91 2, 5) := by decide +kernel
theorem dL_act_71 : decode cL_act 71 = .ok (.checkcast 63, 3) := by decide +kernel
theorem dL_act_74 : decode cL_act 74 = .ok (.astore 6, 2) := by decide +kernel
theorem dL_act_76 : decode cL_act 76 = .ok (.aload_n 2, 1) := by decide +kernel
theorem dL_act_77 : decode cL_act 77 = .ok (.bipush 9, 2) := by decide +kernel
theorem dL_act_79 : decode cL_act 79 = .ok (.invokestatic 193, 3) := by decide +kernel
theorem dL_act_82 : decode cL_act 82 = .ok (.tableswitch 440 0 6 #[42, 42, 42, 180, 180, 317, 405], 42) := by decide +kernel
theorem dL_act_124 : decode cL_act 124 = .ok (.aload_n 1, 1) := by decide +kernel
theorem dL_act_125 : decode cL_act 125 = .ok (.getfield 10, 3) := by decide +kernel
theorem dL_act_128 : decode cL_act 128 = .ok (.aload_n 2, 1) := by decide +kernel
theorem dL_act_129 : decode cL_act 129 = .ok (.aload_n 1, 1) := by decide +kernel
theorem dL_act_130 : decode cL_act 130 = .ok (.getfield 10, 3) := by decide +kernel
theorem dL_act_133 : decode cL_act 133 = .ok (.invokeinterface 86 1, 5) := by decide +kernel
theorem dL_act_138 : decode cL_act 138 = .ok (.invokestatic 193, 3) := by decide +kernel
theorem dL_act_141 : decode cL_act 141 = .ok (.invokeinterface 91 2, 5) := by decide +kernel
theorem dL_act_146 : decode cL_act 146 = .ok (.checkcast 51, 3) := by decide +kernel
theorem dL_act_149 : decode cL_act 149 = .ok (.astore 7, 2) := by decide +kernel
theorem dL_act_151 : decode cL_act 151 = .ok (.aload 7, 2) := by decide +kernel
theorem dL_act_153 : decode cL_act 153 = .ok (.aload_n 2, 1) := by decide +kernel
theorem dL_act_154 : decode cL_act 154 = .ok (.invokestatic 233, 3) := by decide +kernel
theorem dL_act_157 : decode cL_act 157 = .ok (.istore 8, 2) := by decide +kernel
theorem dL_act_159 : decode cL_act 159 = .ok (.aload_n 1, 1) := by decide +kernel
theorem dL_act_160 : decode cL_act 160 = .ok (.aload 4, 2) := by decide +kernel
theorem dL_act_162 : decode cL_act 162 = .ok (.aload 7, 2) := by decide +kernel
theorem dL_act_164 : decode cL_act 164 = .ok (.iload 8, 2) := by decide +kernel
theorem dL_act_166 : decode cL_act 166 = .ok (.invokevirtual 319, 3) := by decide +kernel
theorem dL_act_169 : decode cL_act 169 = .ok (.istore 9, 2) := by decide +kernel
theorem dL_act_171 : decode cL_act 171 = .ok (.aload_n 0, 1) := by decide +kernel
theorem dL_act_172 : decode cL_act 172 = .ok (.iload_n 3, 1) := by decide +kernel
theorem dL_act_173 : decode cL_act 173 = .ok (.aload 7, 2) := by decide +kernel
theorem dL_act_175 : decode cL_act 175 = .ok (.getfield 238, 3) := by decide +kernel
theorem dL_act_178 : decode cL_act 178 = .ok (.iload 8, 2) := by decide +kernel
theorem dL_act_180 : decode cL_act 180 = .ok (.invokevirtual 323, 3) := by decide +kernel
theorem dL_act_183 : decode cL_act 183 = .ok (.iload 9, 2) := by decide +kernel
theorem dL_act_185 : decode cL_act 185 = .ok (.if_icmp .eq 5, 3) := by decide +kernel
theorem dL_act_188 : decode cL_act 188 = .ok (.iconst 0, 1) := by decide +kernel
theorem dL_act_189 : decode cL_act 189 = .ok (.ireturn, 1) := by decide +kernel
theorem dL_act_190 : decode cL_act 190 = .ok (.iload 9, 2) := by decide +kernel
theorem dL_act_192 : decode cL_act 192 = .ok (.ifCond .eq 5, 3) := by decide +kernel
theorem dL_act_195 : decode cL_act 195 = .ok (.iconst 1, 1) := by decide +kernel
theorem dL_act_196 : decode cL_act 196 = .ok (.ireturn, 1) := by decide +kernel
theorem dL_act_197 : decode cL_act 197 = .ok (.aload_n 1, 1) := by decide +kernel
theorem dL_act_198 : decode cL_act 198 = .ok (.aload 7, 2) := by decide +kernel
theorem dL_act_200 : decode cL_act 200 = .ok (.iload 8, 2) := by decide +kernel
theorem dL_act_202 : decode cL_act 202 = .ok (.invokevirtual 154, 3) := by decide +kernel
theorem dL_act_205 : decode cL_act 205 = .ok (.istore 10, 2) := by decide +kernel
theorem dL_act_207 : decode cL_act 207 = .ok (.aload_n 1, 1) := by decide +kernel
theorem dL_act_208 : decode cL_act 208 = .ok (.aload 4, 2) := by decide +kernel
theorem dL_act_210 : decode cL_act 210 = .ok (.iload 10, 2) := by decide +kernel
theorem dL_act_212 : decode cL_act 212 = .ok (.invokevirtual 112, 3) := by decide +kernel
theorem dL_act_215 : decode cL_act 215 = .ok (.aload 4, 2) := by decide +kernel
theorem dL_act_217 : decode cL_act 217 = .ok (.invokevirtual 109, 3) := by decide +kernel
theorem dL_act_220 : decode cL_act 220 = .ok (.aload 4, 2) := by decide +kernel
theorem dL_act_222 : decode cL_act 222 = .ok (.aload 7, 2) := by decide +kernel
theorem dL_act_224 : decode cL_act 224 = .ok (.iload 8, 2) := by decide +kernel
theorem dL_act_226 : decode cL_act 226 = .ok (.invokevirtual 168, 3) := by decide +kernel
theorem dL_act_229 : decode cL_act 229 = .ok (.aload_n 1, 1) := by decide +kernel
theorem dL_act_230 : decode cL_act 230 = .ok (.dup, 1) := by decide +kernel
theorem dL_act_231 : decode cL_act 231 = .ok (.getfield 267, 3) := by decide +kernel
theorem dL_act_234 : decode cL_act 234 = .ok (.iconst 1, 1) := by decide +kernel
theorem dL_act_235 : decode cL_act 235 = .ok (.iadd, 1) := by decide +kernel
theorem dL_act_236 : decode cL_act 236 = .ok (.putfield 267, 3) := by decide +kernel
theorem dL_act_239 : decode cL_act 239 = .ok (.aload_n 0, 1) := by decide +kernel
theorem dL_act_240 : decode cL_act 240 = .ok (.iload_n 3, 1) := by decide +kernel
theorem dL_act_241 : decode cL_act 241 = .ok (.aload 7, 2) := by decide +kernel
theorem dL_act_243 : decode cL_act 243 = .ok (.getfield 238, 3) := by decide +kernel
theorem dL_act_246 : decode cL_act 246 = .ok (.iload 8, 2) := by decide +kernel
theorem dL_act_248 : decode cL_act 248 = .ok (.invokevirtual 327, 3) := by decide +kernel
theorem dL_act_251 : decode cL_act 251 = .ok (.iload 10, 2) := by decide +kernel
theorem dL_act_253 : decode cL_act 253 = .ok (.if_icmp .ne 7, 3) := by decide +kernel
theorem dL_act_256 : decode cL_act 256 = .ok (.iconst 1, 1) := by decide +kernel
theorem dL_act_257 : decode cL_act 257 = .ok (.goto 4, 3) := by decide +kernel
theorem dL_act_260 : decode cL_act 260 = .ok (.iconst 0, 1) := by decide +kernel
theorem dL_act_261 : decode cL_act 261 = .ok (.ireturn, 1) := by decide +kernel
theorem dL_act_262 : decode cL_act 262 = .ok (.iconst 1, 1) := by decide +kernel
theorem dL_act_263 : decode cL_act 263 = .ok (.aload_n 2, 1) := by decide +kernel
theorem dL_act_264 : decode cL_act 264 = .ok (.bipush 9, 2) := by decide +kernel
theorem dL_act_266 : decode cL_act 266 = .ok (.invokestatic 193, 3) := by decide +kernel
theorem dL_act_269 : decode cL_act 269 = .ok (.iadd, 1) := by decide +kernel
theorem dL_act_270 : decode cL_act 270 = .ok (.istore 7, 2) := by decide +kernel
theorem dL_act_272 : decode cL_act 272 = .ok (.aload_n 1, 1) := by decide +kernel
theorem dL_act_273 : decode cL_act 273 = .ok (.aload 4, 2) := by decide +kernel
theorem dL_act_275 : decode cL_act 275 = .ok (.aload 6, 2) := by decide +kernel
theorem dL_act_277 : decode cL_act 277 = .ok (.iload 7, 2) := by decide +kernel
theorem dL_act_279 : decode cL_act 279 = .ok (.invokevirtual 330, 3) := by decide +kernel
theorem dL_act_282 : decode cL_act 282 = .ok (.istore 8, 2) := by decide +kernel
theorem dL_act_284 : decode cL_act 284 = .ok (.aload_n 0, 1) := by decide +kernel
theorem dL_act_285 : decode cL_act 285 = .ok (.iload_n 3, 1) := by decide +kernel
theorem dL_act_286 : decode cL_act 286 = .ok (.iload 5, 2) := by decide +kernel
theorem dL_act_288 : decode cL_act 288 = .ok (.iload 7, 2) := by decide +kernel
theorem dL_act_290 : decode cL_act 290 = .ok (.invokevirtual 333, 3) := by decide +kernel
theorem dL_act_293 : decode cL_act 293 = .ok (.iload 8, 2) := by decide +kernel
theorem dL_act_295 : decode cL_act 295 = .ok (.if_icmp .eq 5, 3) := by decide +kernel
theorem dL_act_298 : decode cL_act 298 = .ok (.iconst 0, 1) := by decide +kernel
theorem dL_act_299 : decode cL_act 299 = .ok (.ireturn, 1) := by decide +kernel
theorem dL_act_300 : decode cL_act 300 = .ok (.iload 8, 2) := by decide +kernel
theorem dL_act_302 : decode cL_act 302 = .ok (.ifCond .eq 5, 3) := by decide +kernel
theorem dL_act_305 : decode cL_act 305 = .ok (.iconst 1, 1) := by decide +kernel
theorem dL_act_306 : decode cL_act 306 = .ok (.ireturn, 1) := by decide +kernel
theorem dL_act_307 : decode cL_act 307 = .ok (.iload 7, 2) := by decide +kernel
theorem dL_act_309 : decode cL_act 309 = .ok (.aload_n 1, 1) := by decide +kernel
theorem dL_act_310 : decode cL_act 310 = .ok (.aload 4, 2) := by decide +kernel
theorem dL_act_312 : decode cL_act 312 = .ok (.aload 6, 2) := by decide +kernel
theorem dL_act_314 : decode cL_act 314 = .ok (.invokevirtual 161, 3) := by decide +kernel
theorem dL_act_317 : decode cL_act 317 = .ok (.imul, 1) := by decide +kernel
theorem dL_act_318 : decode cL_act 318 = .ok (.istore 9, 2) := by decide +kernel
theorem dL_act_320 : decode cL_act 320 = .ok (.aload 4, 2) := by decide +kernel
theorem dL_act_322 : decode cL_act 322 = .ok (.dup, 1) := by decide +kernel
theorem dL_act_323 : decode cL_act 323 = .ok (.getfield 158, 3) := by decide +kernel
theorem dL_act_326 : decode cL_act 326 = .ok (.iload 7, 2) := by decide +kernel
theorem dL_act_328 : decode cL_act 328 = .ok (.isub, 1) := by decide +kernel
theorem dL_act_329 : decode cL_act 329 = .ok (.putfield 158, 3) := by decide +kernel
theorem dL_act_332 : decode cL_act 332 = .ok (.aload 6, 2) := by decide +kernel
theorem dL_act_334 : decode cL_act 334 = .ok (.dup, 1) := by decide +kernel
theorem dL_act_335 : decode cL_act 335 = .ok (.getfield 158, 3) := by decide +kernel
theorem dL_act_338 : decode cL_act 338 = .ok (.iload 7, 2) := by decide +kernel
theorem dL_act_340 : decode cL_act 340 = .ok (.iadd, 1) := by decide +kernel
theorem dL_act_341 : decode cL_act 341 = .ok (.putfield 158, 3) := by decide +kernel
theorem dL_act_344 : decode cL_act 344 = .ok (.aload 4, 2) := by decide +kernel
theorem dL_act_346 : decode cL_act 346 = .ok (.dup, 1) := by decide +kernel
theorem dL_act_347 : decode cL_act 347 = .ok (.getfield 77, 3) := by decide +kernel
theorem dL_act_350 : decode cL_act 350 = .ok (.iload 9, 2) := by decide +kernel
theorem dL_act_352 : decode cL_act 352 = .ok (.iadd, 1) := by decide +kernel
theorem dL_act_353 : decode cL_act 353 = .ok (.putfield 77, 3) := by decide +kernel
theorem dL_act_356 : decode cL_act 356 = .ok (.aload 6, 2) := by decide +kernel
theorem dL_act_358 : decode cL_act 358 = .ok (.dup, 1) := by decide +kernel
theorem dL_act_359 : decode cL_act 359 = .ok (.getfield 77, 3) := by decide +kernel
theorem dL_act_362 : decode cL_act 362 = .ok (.iload 9, 2) := by decide +kernel
theorem dL_act_364 : decode cL_act 364 = .ok (.isub, 1) := by decide +kernel
theorem dL_act_365 : decode cL_act 365 = .ok (.putfield 77, 3) := by decide +kernel
theorem dL_act_368 : decode cL_act 368 = .ok (.aload_n 1, 1) := by decide +kernel
theorem dL_act_369 : decode cL_act 369 = .ok (.dup, 1) := by decide +kernel
theorem dL_act_370 : decode cL_act 370 = .ok (.getfield 273, 3) := by decide +kernel
theorem dL_act_373 : decode cL_act 373 = .ok (.iload 7, 2) := by decide +kernel
theorem dL_act_375 : decode cL_act 375 = .ok (.iadd, 1) := by decide +kernel
theorem dL_act_376 : decode cL_act 376 = .ok (.putfield 273, 3) := by decide +kernel
theorem dL_act_379 : decode cL_act 379 = .ok (.aload_n 0, 1) := by decide +kernel
theorem dL_act_380 : decode cL_act 380 = .ok (.iload_n 3, 1) := by decide +kernel
theorem dL_act_381 : decode cL_act 381 = .ok (.iload 5, 2) := by decide +kernel
theorem dL_act_383 : decode cL_act 383 = .ok (.iload 7, 2) := by decide +kernel
theorem dL_act_385 : decode cL_act 385 = .ok (.invokevirtual 336, 3) := by decide +kernel
theorem dL_act_388 : decode cL_act 388 = .ok (.iload 9, 2) := by decide +kernel
theorem dL_act_390 : decode cL_act 390 = .ok (.if_icmp .ne 7, 3) := by decide +kernel
theorem dL_act_393 : decode cL_act 393 = .ok (.iconst 1, 1) := by decide +kernel
theorem dL_act_394 : decode cL_act 394 = .ok (.goto 4, 3) := by decide +kernel
theorem dL_act_397 : decode cL_act 397 = .ok (.iconst 0, 1) := by decide +kernel
theorem dL_act_398 : decode cL_act 398 = .ok (.ireturn, 1) := by decide +kernel
theorem dL_act_399 : decode cL_act 399 = .ok (.aload 4, 2) := by decide +kernel
theorem dL_act_401 : decode cL_act 401 = .ok (.aload 6, 2) := by decide +kernel
theorem dL_act_403 : decode cL_act 403 = .ok (.invokestatic 339, 3) := by decide +kernel
theorem dL_act_406 : decode cL_act 406 = .ok (.istore 7, 2) := by decide +kernel
theorem dL_act_408 : decode cL_act 408 = .ok (.aload_n 0, 1) := by decide +kernel
theorem dL_act_409 : decode cL_act 409 = .ok (.iload_n 3, 1) := by decide +kernel
theorem dL_act_410 : decode cL_act 410 = .ok (.iload 5, 2) := by decide +kernel
theorem dL_act_412 : decode cL_act 412 = .ok (.invokevirtual 341, 3) := by decide +kernel
theorem dL_act_415 : decode cL_act 415 = .ok (.iload 7, 2) := by decide +kernel
theorem dL_act_417 : decode cL_act 417 = .ok (.if_icmp .eq 5, 3) := by decide +kernel
theorem dL_act_420 : decode cL_act 420 = .ok (.iconst 0, 1) := by decide +kernel
theorem dL_act_421 : decode cL_act 421 = .ok (.ireturn, 1) := by decide +kernel
theorem dL_act_422 : decode cL_act 422 = .ok (.iload 7, 2) := by decide +kernel
theorem dL_act_424 : decode cL_act 424 = .ok (.ifCond .eq 5, 3) := by decide +kernel
theorem dL_act_427 : decode cL_act 427 = .ok (.iconst 1, 1) := by decide +kernel
theorem dL_act_428 : decode cL_act 428 = .ok (.ireturn, 1) := by decide +kernel
theorem dL_act_429 : decode cL_act 429 = .ok (.aload 4, 2) := by decide +kernel
theorem dL_act_431 : decode cL_act 431 = .ok (.aload 6, 2) := by decide +kernel
theorem dL_act_433 : decode cL_act 433 = .ok (.invokestatic 172, 3) := by decide +kernel
theorem dL_act_436 : decode cL_act 436 = .ok (.istore 8, 2) := by decide +kernel
theorem dL_act_438 : decode cL_act 438 = .ok (.aload 4, 2) := by decide +kernel
theorem dL_act_440 : decode cL_act 440 = .ok (.dup, 1) := by decide +kernel
theorem dL_act_441 : decode cL_act 441 = .ok (.getfield 77, 3) := by decide +kernel
theorem dL_act_444 : decode cL_act 444 = .ok (.iload 8, 2) := by decide +kernel
theorem dL_act_446 : decode cL_act 446 = .ok (.isub, 1) := by decide +kernel
theorem dL_act_447 : decode cL_act 447 = .ok (.putfield 77, 3) := by decide +kernel
theorem dL_act_450 : decode cL_act 450 = .ok (.aload 6, 2) := by decide +kernel
theorem dL_act_452 : decode cL_act 452 = .ok (.dup, 1) := by decide +kernel
theorem dL_act_453 : decode cL_act 453 = .ok (.getfield 77, 3) := by decide +kernel
theorem dL_act_456 : decode cL_act 456 = .ok (.iload 8, 2) := by decide +kernel
theorem dL_act_458 : decode cL_act 458 = .ok (.iadd, 1) := by decide +kernel
theorem dL_act_459 : decode cL_act 459 = .ok (.putfield 77, 3) := by decide +kernel
theorem dL_act_462 : decode cL_act 462 = .ok (.aload 4, 2) := by decide +kernel
theorem dL_act_464 : decode cL_act 464 = .ok (.aload 6, 2) := by decide +kernel
theorem dL_act_466 : decode cL_act 466 = .ok (.invokestatic 175, 3) := by decide +kernel
theorem dL_act_469 : decode cL_act 469 = .ok (.aload_n 0, 1) := by decide +kernel
theorem dL_act_470 : decode cL_act 470 = .ok (.iload_n 3, 1) := by decide +kernel
theorem dL_act_471 : decode cL_act 471 = .ok (.iload 5, 2) := by decide +kernel
theorem dL_act_473 : decode cL_act 473 = .ok (.invokevirtual 344, 3) := by decide +kernel
theorem dL_act_476 : decode cL_act 476 = .ok (.iload 8, 2) := by decide +kernel
theorem dL_act_478 : decode cL_act 478 = .ok (.if_icmp .ne 7, 3) := by decide +kernel
theorem dL_act_481 : decode cL_act 481 = .ok (.iconst 1, 1) := by decide +kernel
theorem dL_act_482 : decode cL_act 482 = .ok (.goto 4, 3) := by decide +kernel
theorem dL_act_485 : decode cL_act 485 = .ok (.iconst 0, 1) := by decide +kernel
theorem dL_act_486 : decode cL_act 486 = .ok (.ireturn, 1) := by decide +kernel
theorem dL_act_487 : decode cL_act 487 = .ok (.aload_n 1, 1) := by decide +kernel
theorem dL_act_488 : decode cL_act 488 = .ok (.getfield 59, 3) := by decide +kernel
theorem dL_act_491 : decode cL_act 491 = .ok (.istore 7, 2) := by decide +kernel
theorem dL_act_493 : decode cL_act 493 = .ok (.aload_n 1, 1) := by decide +kernel
theorem dL_act_494 : decode cL_act 494 = .ok (.aload_n 2, 1) := by decide +kernel
theorem dL_act_495 : decode cL_act 495 = .ok (.bipush 12, 2) := by decide +kernel
theorem dL_act_497 : decode cL_act 497 = .ok (.invokestatic 193, 3) := by decide +kernel
theorem dL_act_500 : decode cL_act 500 = .ok (.putfield 59, 3) := by decide +kernel
theorem dL_act_503 : decode cL_act 503 = .ok (.aload_n 0, 1) := by decide +kernel
theorem dL_act_504 : decode cL_act 504 = .ok (.aload_n 1, 1) := by decide +kernel
theorem dL_act_505 : decode cL_act 505 = .ok (.getfield 59, 3) := by decide +kernel
theorem dL_act_508 : decode cL_act 508 = .ok (.invokevirtual 347, 3) := by decide +kernel
theorem dL_act_511 : decode cL_act 511 = .ok (.iload 7, 2) := by decide +kernel
theorem dL_act_513 : decode cL_act 513 = .ok (.if_icmp .ne 7, 3) := by decide +kernel
theorem dL_act_516 : decode cL_act 516 = .ok (.iconst 1, 1) := by decide +kernel
theorem dL_act_517 : decode cL_act 517 = .ok (.goto 4, 3) := by decide +kernel
theorem dL_act_520 : decode cL_act 520 = .ok (.iconst 0, 1) := by decide +kernel
theorem dL_act_521 : decode cL_act 521 = .ok (.ireturn, 1) := by decide +kernel
theorem dL_act_522 : decode cL_act 522 = .ok (.iconst 1, 1) := by decide +kernel
theorem dL_act_523 : decode cL_act 523 = .ok (.aload_n 2, 1) := by decide +kernel
theorem dL_act_524 : decode cL_act 524 = .ok (.bipush 6, 2) := by decide +kernel
theorem dL_act_526 : decode cL_act 526 = .ok (.invokestatic 193, 3) := by decide +kernel
theorem dL_act_529 : decode cL_act 529 = .ok (.iadd, 1) := by decide +kernel
theorem dL_act_530 : decode cL_act 530 = .ok (.istore 7, 2) := by decide +kernel
theorem dL_act_532 : decode cL_act 532 = .ok (.iconst 0, 1) := by decide +kernel
theorem dL_act_533 : decode cL_act 533 = .ok (.istore 8, 2) := by decide +kernel
theorem dL_act_535 : decode cL_act 535 = .ok (.iconst 0, 1) := by decide +kernel
theorem dL_act_536 : decode cL_act 536 = .ok (.istore 9, 2) := by decide +kernel
theorem dL_act_538 : decode cL_act 538 = .ok (.iload 9, 2) := by decide +kernel
theorem dL_act_540 : decode cL_act 540 = .ok (.iload 7, 2) := by decide +kernel
theorem dL_act_542 : decode cL_act 542 = .ok (.if_icmp .ge 18, 3) := by decide +kernel
theorem dL_act_545 : decode cL_act 545 = .ok (.iload 8, 2) := by decide +kernel
theorem dL_act_547 : decode cL_act 547 = .ok (.aload_n 1, 1) := by decide +kernel
theorem dL_act_548 : decode cL_act 548 = .ok (.invokevirtual 350, 3) := by decide +kernel
theorem dL_act_551 : decode cL_act 551 = .ok (.iadd, 1) := by decide +kernel
theorem dL_act_552 : decode cL_act 552 = .ok (.istore 8, 2) := by decide +kernel
theorem dL_act_554 : decode cL_act 554 = .ok (.iinc 9 1, 3) := by decide +kernel
theorem dL_act_557 : decode cL_act 557 = .ok (.goto (-19), 3) := by decide +kernel
theorem dL_act_560 : decode cL_act 560 = .ok (.aload_n 0, 1) := by decide +kernel
theorem dL_act_561 : decode cL_act 561 = .ok (.iload 7, 2) := by decide +kernel
theorem dL_act_563 : decode cL_act 563 = .ok (.invokevirtual 353, 3) := by decide +kernel
theorem dL_act_566 : decode cL_act 566 = .ok (.iload 8, 2) := by decide +kernel
theorem dL_act_568 : decode cL_act 568 = .ok (.if_icmp .ne 7, 3) := by decide +kernel
theorem dL_act_571 : decode cL_act 571 = .ok (.iconst 1, 1) := by decide +kernel
theorem dL_act_572 : decode cL_act 572 = .ok (.goto 4, 3) := by decide +kernel
theorem dL_act_575 : decode cL_act 575 = .ok (.iconst 0, 1) := by decide +kernel
theorem dL_act_576 : decode cL_act 576 = .ok (.ireturn, 1) := by decide +kernel
