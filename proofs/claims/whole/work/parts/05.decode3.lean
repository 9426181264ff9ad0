theorem dX12_noSlot_15 : decode cX12_noSlot 15 = .ok (.iconst 0, 1) := by decide +kernel
theorem dX12_noSlot_16 : decode cX12_noSlot 16 = .ok (.iconst 1, 1) := by decide +kernel
theorem dX12_noSlot_17 : decode cX12_noSlot 17 = .ok (.invokevirtual 161, 3) := by decide +kernel
theorem dX12_noSlot_20 : decode cX12_noSlot 20 = .ok (.ireturn, 1) := by decide +kernel
theorem dX12_save_0 : decode cX12_save 0 = .ok (.aload_n 0, 1) := by decide +kernel
theorem dX12_save_1 : decode cX12_save 1 = .ok (.iconst 0, 1) := by decide +kernel
theorem dX12_save_2 : decode cX12_save 2 = .ok (.putfield 63, 3) := by decide +kernel
theorem dX12_save_5 : decode cX12_save 5 = .ok (.aload_n 0, 1) := by decide +kernel
theorem dX12_save_6 : decode cX12_save 6 = .ok (.iload_n 1, 1) := by decide +kernel
theorem dX12_save_7 : decode cX12_save 7 = .ok (.invokevirtual 446, 3) := by decide +kernel
theorem dX12_save_10 : decode cX12_save 10 = .ok (.ifCond .eq 5, 3) := by decide +kernel
theorem dX12_save_13 : decode cX12_save 13 = .ok (.iconst 0, 1) := by decide +kernel
theorem dX12_save_14 : decode cX12_save 14 = .ok (.ireturn, 1) := by decide +kernel
theorem dX12_save_15 : decode cX12_save 15 = .ok (.aload_n 0, 1) := by decide +kernel
theorem dX12_save_16 : decode cX12_save 16 = .ok (.getfield 7, 3) := by decide +kernel
theorem dX12_save_19 : decode cX12_save 19 = .ok (.iconst 0, 1) := by decide +kernel
theorem dX12_save_20 : decode cX12_save 20 = .ok (.aload_n 0, 1) := by decide +kernel
theorem dX12_save_21 : decode cX12_save 21 = .ok (.getfield 19, 3) := by decide +kernel
theorem dX12_save_24 : decode cX12_save 24 = .ok (.sipush 293, 3) := by decide +kernel
theorem dX12_save_27 : decode cX12_save 27 = .ok (.iload_n 1, 1) := by decide +kernel
theorem dX12_save_28 : decode cX12_save 28 = .ok (.imul, 1) := by decide +kernel
theorem dX12_save_29 : decode cX12_save 29 = .ok (.invokestatic 282, 3) := by decide +kernel
theorem dX12_save_32 : decode cX12_save 32 = .ok (.aload_n 0, 1) := by decide +kernel
theorem dX12_save_33 : decode cX12_save 33 = .ok (.getfield 22, 3) := by decide +kernel
theorem dX12_save_36 : decode cX12_save 36 = .ok (.iload_n 1, 1) := by decide +kernel
theorem dX12_save_37 : decode cX12_save 37 = .ok (.iconst 1, 1) := by decide +kernel
theorem dX12_save_38 : decode cX12_save 38 = .ok (.bastore, 1) := by decide +kernel
theorem dX12_save_39 : decode cX12_save 39 = .ok (.aload_n 0, 1) := by decide +kernel
theorem dX12_save_40 : decode cX12_save 40 = .ok (.getfield 7, 3) := by decide +kernel
theorem dX12_save_43 : decode cX12_save 43 = .ok (.bipush 6, 2) := by decide +kernel
theorem dX12_save_45 : decode cX12_save 45 = .ok (.iaload, 1) := by decide +kernel
theorem dX12_save_46 : decode cX12_save 46 = .ok (.ireturn, 1) := by decide +kernel
theorem dX12_restore_0 : decode cX12_restore 0 = .ok (.aload_n 0, 1) := by decide +kernel
theorem dX12_restore_1 : decode cX12_restore 1 = .ok (.iconst 0, 1) := by decide +kernel
theorem dX12_restore_2 : decode cX12_restore 2 = .ok (.putfield 63, 3) := by decide +kernel
theorem dX12_restore_5 : decode cX12_restore 5 = .ok (.aload_n 0, 1) := by decide +kernel
theorem dX12_restore_6 : decode cX12_restore 6 = .ok (.iload_n 1, 1) := by decide +kernel
theorem dX12_restore_7 : decode cX12_restore 7 = .ok (.invokevirtual 446, 3) := by decide +kernel
theorem dX12_restore_10 : decode cX12_restore 10 = .ok (.ifCond .ne 25, 3) := by decide +kernel
theorem dX12_restore_13 : decode cX12_restore 13 = .ok (.aload_n 0, 1) := by decide +kernel
theorem dX12_restore_14 : decode cX12_restore 14 = .ok (.aload_n 0, 1) := by decide +kernel
theorem dX12_restore_15 : decode cX12_restore 15 = .ok (.getfield 22, 3) := by decide +kernel
theorem dX12_restore_18 : decode cX12_restore 18 = .ok (.iload_n 1, 1) := by decide +kernel
theorem dX12_restore_19 : decode cX12_restore 19 = .ok (.baload, 1) := by decide +kernel
theorem dX12_restore_20 : decode cX12_restore 20 = .ok (.ifCond .ne 7, 3) := by decide +kernel
theorem dX12_restore_23 : decode cX12_restore 23 = .ok (.iconst 1, 1) := by decide +kernel
theorem dX12_restore_24 : decode cX12_restore 24 = .ok (.goto 4, 3) := by decide +kernel
theorem dX12_restore_27 : decode cX12_restore 27 = .ok (.iconst 0, 1) := by decide +kernel
theorem dX12_restore_28 : decode cX12_restore 28 = .ok (.iconst 2, 1) := by decide +kernel
theorem dX12_restore_29 : decode cX12_restore 29 = .ok (.invokevirtual 161, 3) := by decide +kernel
theorem dX12_restore_32 : decode cX12_restore 32 = .ok (.ifCond .eq 5, 3) := by decide +kernel
theorem dX12_restore_35 : decode cX12_restore 35 = .ok (.iconst 0, 1) := by decide +kernel
theorem dX12_restore_36 : decode cX12_restore 36 = .ok (.ireturn, 1) := by decide +kernel
theorem dX12_restore_37 : decode cX12_restore 37 = .ok (.aload_n 0, 1) := by decide +kernel
theorem dX12_restore_38 : decode cX12_restore 38 = .ok (.getfield 19, 3) := by decide +kernel
theorem dX12_restore_41 : decode cX12_restore 41 = .ok (.sipush 293, 3) := by decide +kernel
theorem dX12_restore_44 : decode cX12_restore 44 = .ok (.iload_n 1, 1) := by decide +kernel
theorem dX12_restore_45 : decode cX12_restore 45 = .ok (.imul, 1) := by decide +kernel
theorem dX12_restore_46 : decode cX12_restore 46 = .ok (.aload_n 0, 1) := by decide +kernel
theorem dX12_restore_47 : decode cX12_restore 47 = .ok (.getfield 7, 3) := by decide +kernel
theorem dX12_restore_50 : decode cX12_restore 50 = .ok (.iconst 0, 1) := by decide +kernel
theorem dX12_restore_51 : decode cX12_restore 51 = .ok (.invokestatic 282, 3) := by decide +kernel
theorem dX12_restore_54 : decode cX12_restore 54 = .ok (.aload_n 0, 1) := by decide +kernel
theorem dX12_restore_55 : decode cX12_restore 55 = .ok (.iconst 0, 1) := by decide +kernel
theorem dX12_restore_56 : decode cX12_restore 56 = .ok (.putfield 295, 3) := by decide +kernel
theorem dX12_restore_59 : decode cX12_restore 59 = .ok (.aload_n 0, 1) := by decide +kernel
theorem dX12_restore_60 : decode cX12_restore 60 = .ok (.getfield 7, 3) := by decide +kernel
theorem dX12_restore_63 : decode cX12_restore 63 = .ok (.bipush 6, 2) := by decide +kernel
theorem dX12_restore_65 : decode cX12_restore 65 = .ok (.iaload, 1) := by decide +kernel
theorem dX12_restore_66 : decode cX12_restore 66 = .ok (.ireturn, 1) := by decide +kernel
theorem dX12_day_0 : decode cX12_day 0 = .ok (.aload_n 0, 1) := by decide +kernel
theorem dX12_day_1 : decode cX12_day 1 = .ok (.iconst 0, 1) := by decide +kernel
theorem dX12_day_2 : decode cX12_day 2 = .ok (.putfield 63, 3) := by decide +kernel
theorem dX12_day_5 : decode cX12_day 5 = .ok (.aload_n 0, 1) := by decide +kernel
theorem dX12_day_6 : decode cX12_day 6 = .ok (.getfield 7, 3) := by decide +kernel
theorem dX12_day_9 : decode cX12_day 9 = .ok (.bipush 6, 2) := by decide +kernel
theorem dX12_day_11 : decode cX12_day 11 = .ok (.iaload, 1) := by decide +kernel
theorem dX12_day_12 : decode cX12_day 12 = .ok (.ireturn, 1) := by decide +kernel
theorem dX12_bank_0 : decode cX12_bank 0 = .ok (.aload_n 0, 1) := by decide +kernel
theorem dX12_bank_1 : decode cX12_bank 1 = .ok (.iconst 0, 1) := by decide +kernel
theorem dX12_bank_2 : decode cX12_bank 2 = .ok (.putfield 63, 3) := by decide +kernel
theorem dX12_bank_5 : decode cX12_bank 5 = .ok (.aload_n 0, 1) := by decide +kernel
theorem dX12_bank_6 : decode cX12_bank 6 = .ok (.getfield 7, 3) := by decide +kernel
theorem dX12_bank_9 : decode cX12_bank 9 = .ok (.iconst 5, 1) := by decide +kernel
theorem dX12_bank_10 : decode cX12_bank 10 = .ok (.iaload, 1) := by decide +kernel
theorem dX12_bank_11 : decode cX12_bank 11 = .ok (.ireturn, 1) := by decide +kernel
theorem dX12_wage_0 : decode cX12_wage 0 = .ok (.aload_n 0, 1) := by decide +kernel
theorem dX12_wage_1 : decode cX12_wage 1 = .ok (.iconst 0, 1) := by decide +kernel
theorem dX12_wage_2 : decode cX12_wage 2 = .ok (.putfield 63, 3) := by decide +kernel
theorem dX12_wage_5 : decode cX12_wage 5 = .ok (.aload_n 0, 1) := by decide +kernel
theorem dX12_wage_6 : decode cX12_wage 6 = .ok (.getfield 7, 3) := by decide +kernel
theorem dX12_wage_9 : decode cX12_wage 9 = .ok (.iconst 0, 1) := by decide +kernel
theorem dX12_wage_10 : decode cX12_wage 10 = .ok (.iaload, 1) := by decide +kernel
theorem dX12_wage_11 : decode cX12_wage 11 = .ok (.ireturn, 1) := by decide +kernel
theorem dX12_basePrice_0 : decode cX12_basePrice 0 = .ok (.aload_n 0, 1) := by decide +kernel
theorem dX12_basePrice_1 : decode cX12_basePrice 1 = .ok (.iconst 0, 1) := by decide +kernel
theorem dX12_basePrice_2 : decode cX12_basePrice 2 = .ok (.putfield 63, 3) := by decide +kernel
theorem dX12_basePrice_5 : decode cX12_basePrice 5 = .ok (.aload_n 0, 1) := by decide +kernel
theorem dX12_basePrice_6 : decode cX12_basePrice 6 = .ok (.getfield 7, 3) := by decide +kernel
theorem dX12_basePrice_9 : decode cX12_basePrice 9 = .ok (.iconst 1, 1) := by decide +kernel
theorem dX12_basePrice_10 : decode cX12_basePrice 10 = .ok (.iaload, 1) := by decide +kernel
theorem dX12_basePrice_11 : decode cX12_basePrice 11 = .ok (.ireturn, 1) := by decide +kernel
theorem dX12_retirementAge_0 : decode cX12_retirementAge 0 = .ok (.aload_n 0, 1) := by decide +kernel
theorem dX12_retirementAge_1 : decode cX12_retirementAge 1 = .ok (.iconst 0, 1) := by decide +kernel
theorem dX12_retirementAge_2 : decode cX12_retirementAge 2 = .ok (.putfield 63, 3) := by decide +kernel
theorem dX12_retirementAge_5 : decode cX12_retirementAge 5 = .ok (.aload_n 0, 1) := by decide +kernel
theorem dX12_retirementAge_6 : decode cX12_retirementAge 6 = .ok (.getfield 7, 3) := by decide +kernel
theorem dX12_retirementAge_9 : decode cX12_retirementAge 9 = .ok (.iconst 3, 1) := by decide +kernel
theorem dX12_retirementAge_10 : decode cX12_retirementAge 10 = .ok (.iaload, 1) := by decide +kernel
theorem dX12_retirementAge_11 : decode cX12_retirementAge 11 = .ok (.ireturn, 1) := by decide +kernel
theorem dX12_boardCount_0 : decode cX12_boardCount 0 = .ok (.aload_n 0, 1) := by decide +kernel
theorem dX12_boardCount_1 : decode cX12_boardCount 1 = .ok (.iconst 0, 1) := by decide +kernel
theorem dX12_boardCount_2 : decode cX12_boardCount 2 = .ok (.putfield 63, 3) := by decide +kernel
theorem dX12_boardCount_5 : decode cX12_boardCount 5 = .ok (.aload_n 0, 1) := by decide +kernel
theorem dX12_boardCount_6 : decode cX12_boardCount 6 = .ok (.getfield 7, 3) := by decide +kernel
theorem dX12_boardCount_9 : decode cX12_boardCount 9 = .ok (.bipush 7, 2) := by decide +kernel
theorem dX12_boardCount_11 : decode cX12_boardCount 11 = .ok (.iaload, 1) := by decide +kernel
theorem dX12_boardCount_12 : decode cX12_boardCount 12 = .ok (.ireturn, 1) := by decide +kernel
theorem dX12_armLength_0 : decode cX12_armLength 0 = .ok (.aload_n 0, 1) := by decide +kernel
theorem dX12_armLength_1 : decode cX12_armLength 1 = .ok (.iconst 0, 1) := by decide +kernel
theorem dX12_armLength_2 : decode cX12_armLength 2 = .ok (.putfield 63, 3) := by decide +kernel
theorem dX12_armLength_5 : decode cX12_armLength 5 = .ok (.aload_n 0, 1) := by decide +kernel
theorem dX12_armLength_6 : decode cX12_armLength 6 = .ok (.iload_n 1, 1) := by decide +kernel
theorem dX12_armLength_7 : decode cX12_armLength 7 = .ok (.invokevirtual 417, 3) := by decide +kernel
theorem dX12_armLength_10 : decode cX12_armLength 10 = .ok (.ifCond .eq 7, 3) := by decide +kernel
theorem dX12_armLength_13 : decode cX12_armLength 13 = .ok (.iconst 0, 1) := by decide +kernel
theorem dX12_armLength_14 : decode cX12_armLength 14 = .ok (.goto 9, 3) := by decide +kernel
theorem dX12_armLength_17 : decode cX12_armLength 17 = .ok (.aload_n 0, 1) := by decide +kernel
theorem dX12_armLength_18 : decode cX12_armLength 18 = .ok (.iload_n 1, 1) := by decide +kernel
theorem dX12_armLength_19 : decode cX12_armLength 19 = .ok (.iconst 0, 1) := by decide +kernel
theorem dX12_armLength_20 : decode cX12_armLength 20 = .ok (.invokevirtual 83, 3) := by decide +kernel
theorem dX12_armLength_23 : decode cX12_armLength 23 = .ok (.ireturn, 1) := by decide +kernel
theorem dX12_stiffness_0 : decode cX12_stiffness 0 = .ok (.aload_n 0, 1) := by decide +kernel
theorem dX12_stiffness_1 : decode cX12_stiffness 1 = .ok (.iconst 0, 1) := by decide +kernel
theorem dX12_stiffness_2 : decode cX12_stiffness 2 = .ok (.putfield 63, 3) := by decide +kernel
theorem dX12_stiffness_5 : decode cX12_stiffness 5 = .ok (.aload_n 0, 1) := by decide +kernel
theorem dX12_stiffness_6 : decode cX12_stiffness 6 = .ok (.iload_n 1, 1) := by decide +kernel
theorem dX12_stiffness_7 : decode cX12_stiffness 7 = .ok (.invokevirtual 417, 3) := by decide +kernel
theorem dX12_stiffness_10 : decode cX12_stiffness 10 = .ok (.ifCond .eq 7, 3) := by decide +kernel
theorem dX12_stiffness_13 : decode cX12_stiffness 13 = .ok (.iconst 0, 1) := by decide +kernel
theorem dX12_stiffness_14 : decode cX12_stiffness 14 = .ok (.goto 9, 3) := by decide +kernel
theorem dX12_stiffness_17 : decode cX12_stiffness 17 = .ok (.aload_n 0, 1) := by decide +kernel
theorem dX12_stiffness_18 : decode cX12_stiffness 18 = .ok (.iload_n 1, 1) := by decide +kernel
theorem dX12_stiffness_19 : decode cX12_stiffness 19 = .ok (.iconst 1, 1) := by decide +kernel
theorem dX12_stiffness_20 : decode cX12_stiffness 20 = .ok (.invokevirtual 83, 3) := by decide +kernel
theorem dX12_stiffness_23 : decode cX12_stiffness 23 = .ok (.ireturn, 1) := by decide +kernel
theorem dX12_torque_0 : decode cX12_torque 0 = .ok (.aload_n 0, 1) := by decide +kernel
theorem dX12_torque_1 : decode cX12_torque 1 = .ok (.iconst 0, 1) := by decide +kernel
theorem dX12_torque_2 : decode cX12_torque 2 = .ok (.putfield 63, 3) := by decide +kernel
theorem dX12_torque_5 : decode cX12_torque 5 = .ok (.aload_n 0, 1) := by decide +kernel
theorem dX12_torque_6 : decode cX12_torque 6 = .ok (.iload_n 1, 1) := by decide +kernel
theorem dX12_torque_7 : decode cX12_torque 7 = .ok (.invokevirtual 417, 3) := by decide +kernel
theorem dX12_torque_10 : decode cX12_torque 10 = .ok (.ifCond .eq 7, 3) := by decide +kernel
theorem dX12_torque_13 : decode cX12_torque 13 = .ok (.iconst 0, 1) := by decide +kernel
theorem dX12_torque_14 : decode cX12_torque 14 = .ok (.goto 8, 3) := by decide +kernel
theorem dX12_torque_17 : decode cX12_torque 17 = .ok (.aload_n 0, 1) := by decide +kernel
theorem dX12_torque_18 : decode cX12_torque 18 = .ok (.iload_n 1, 1) := by decide +kernel
theorem dX12_torque_19 : decode cX12_torque 19 = .ok (.invokevirtual 99, 3) := by decide +kernel
theorem dX12_torque_22 : decode cX12_torque 22 = .ok (.ireturn, 1) := by decide +kernel
theorem dX12_tilt_0 : decode cX12_tilt 0 = .ok (.aload_n 0, 1) := by decide +kernel
theorem dX12_tilt_1 : decode cX12_tilt 1 = .ok (.iconst 0, 1) := by decide +kernel
theorem dX12_tilt_2 : decode cX12_tilt 2 = .ok (.putfield 63, 3) := by decide +kernel
theorem dX12_tilt_5 : decode cX12_tilt 5 = .ok (.aload_n 0, 1) := by decide +kernel
theorem dX12_tilt_6 : decode cX12_tilt 6 = .ok (.iload_n 1, 1) := by decide +kernel
theorem dX12_tilt_7 : decode cX12_tilt 7 = .ok (.invokevirtual 417, 3) := by decide +kernel
theorem dX12_tilt_10 : decode cX12_tilt 10 = .ok (.ifCond .eq 7, 3) := by decide +kernel
theorem dX12_tilt_13 : decode cX12_tilt 13 = .ok (.iconst 0, 1) := by decide +kernel
theorem dX12_tilt_14 : decode cX12_tilt 14 = .ok (.goto 13, 3) := by decide +kernel
theorem dX12_tilt_17 : decode cX12_tilt 17 = .ok (.aload_n 0, 1) := by decide +kernel
theorem dX12_tilt_18 : decode cX12_tilt 18 = .ok (.iload_n 1, 1) := by decide +kernel
theorem dX12_tilt_19 : decode cX12_tilt 19 = .ok (.aload_n 0, 1) := by decide +kernel
theorem dX12_tilt_20 : decode cX12_tilt 20 = .ok (.iload_n 1, 1) := by decide +kernel
theorem dX12_tilt_21 : decode cX12_tilt 21 = .ok (.invokevirtual 99, 3) := by decide +kernel
theorem dX12_tilt_24 : decode cX12_tilt 24 = .ok (.invokevirtual 103, 3) := by decide +kernel
theorem dX12_tilt_27 : decode cX12_tilt 27 = .ok (.ireturn, 1) := by decide +kernel
theorem dX12_isBalanced_0 : decode cX12_isBalanced 0 = .ok (.aload_n 0, 1) := by decide +kernel
theorem dX12_isBalanced_1 : decode cX12_isBalanced 1 = .ok (.iconst 0, 1) := by decide +kernel
theorem dX12_isBalanced_2 : decode cX12_isBalanced 2 = .ok (.putfield 63, 3) := by decide +kernel
theorem dX12_isBalanced_5 : decode cX12_isBalanced 5 = .ok (.aload_n 0, 1) := by decide +kernel
theorem dX12_isBalanced_6 : decode cX12_isBalanced 6 = .ok (.iload_n 1, 1) := by decide +kernel
theorem dX12_isBalanced_7 : decode cX12_isBalanced 7 = .ok (.invokevirtual 417, 3) := by decide +kernel
theorem dX12_isBalanced_10 : decode cX12_isBalanced 10 = .ok (.ifCond .ne 15, 3) := by decide +kernel
theorem dX12_isBalanced_13 : decode cX12_isBalanced 13 = .ok (.aload_n 0, 1) := by decide +kernel
theorem dX12_isBalanced_14 : decode cX12_isBalanced 14 = .ok (.iload_n 1, 1) := by decide +kernel
theorem dX12_isBalanced_15 : decode cX12_isBalanced 15 = .ok (.invokevirtual 99, 3) := by decide +kernel
theorem dX12_isBalanced_18 : decode cX12_isBalanced 18 = .ok (.ifCond .ne 7, 3) := by decide +kernel
theorem dX12_isBalanced_21 : decode cX12_isBalanced 21 = .ok (.iconst 1, 1) := by decide +kernel
theorem dX12_isBalanced_22 : decode cX12_isBalanced 22 = .ok (.goto 4, 3) := by decide +kernel
theorem dX12_isBalanced_25 : decode cX12_isBalanced 25 = .ok (.iconst 0, 1) := by decide +kernel
theorem dX12_isBalanced_26 : decode cX12_isBalanced 26 = .ok (.ireturn, 1) := by decide +kernel
theorem dX12_seatOwner_0 : decode cX12_seatOwner 0 = .ok (.aload_n 0, 1) := by decide +kernel
theorem dX12_seatOwner_1 : decode cX12_seatOwner 1 = .ok (.iconst 0, 1) := by decide +kernel
theorem dX12_seatOwner_2 : decode cX12_seatOwner 2 = .ok (.putfield 63, 3) := by decide +kernel
theorem dX12_seatOwner_5 : decode cX12_seatOwner 5 = .ok (.aload_n 0, 1) := by decide +kernel
theorem dX12_seatOwner_6 : decode cX12_seatOwner 6 = .ok (.iload_n 1, 1) := by decide +kernel
theorem dX12_seatOwner_7 : decode cX12_seatOwner 7 = .ok (.iload_n 2, 1) := by decide +kernel
theorem dX12_seatOwner_8 : decode cX12_seatOwner 8 = .ok (.invokevirtual 430, 3) := by decide +kernel
theorem dX12_seatOwner_11 : decode cX12_seatOwner 11 = .ok (.ifCond .eq 7, 3) := by decide +kernel
theorem dX12_seatOwner_14 : decode cX12_seatOwner 14 = .ok (.iconst 0, 1) := by decide +kernel
theorem dX12_seatOwner_15 : decode cX12_seatOwner 15 = .ok (.goto 9, 3) := by decide +kernel
theorem dX12_seatOwner_18 : decode cX12_seatOwner 18 = .ok (.aload_n 0, 1) := by decide +kernel
theorem dX12_seatOwner_19 : decode cX12_seatOwner 19 = .ok (.iload_n 1, 1) := by decide +kernel
theorem dX12_seatOwner_20 : decode cX12_seatOwner 20 = .ok (.iload_n 2, 1) := by decide +kernel
theorem dX12_seatOwner_21 : decode cX12_seatOwner 21 = .ok (.invokevirtual 90, 3) := by decide +kernel
theorem dX12_seatOwner_24 : decode cX12_seatOwner 24 = .ok (.ireturn, 1) := by decide +kernel
theorem dX12_seatHeight_0 : decode cX12_seatHeight 0 = .ok (.aload_n 0, 1) := by decide +kernel
theorem dX12_seatHeight_1 : decode cX12_seatHeight 1 = .ok (.iconst 0, 1) := by decide +kernel
theorem dX12_seatHeight_2 : decode cX12_seatHeight 2 = .ok (.putfield 63, 3) := by decide +kernel
theorem dX12_seatHeight_5 : decode cX12_seatHeight 5 = .ok (.aload_n 0, 1) := by decide +kernel
theorem dX12_seatHeight_6 : decode cX12_seatHeight 6 = .ok (.iload_n 1, 1) := by decide +kernel
theorem dX12_seatHeight_7 : decode cX12_seatHeight 7 = .ok (.iload_n 2, 1) := by decide +kernel
theorem dX12_seatHeight_8 : decode cX12_seatHeight 8 = .ok (.invokevirtual 430, 3) := by decide +kernel
theorem dX12_seatHeight_11 : decode cX12_seatHeight 11 = .ok (.ifCond .eq 7, 3) := by decide +kernel
theorem dX12_seatHeight_14 : decode cX12_seatHeight 14 = .ok (.iconst 0, 1) := by decide +kernel
theorem dX12_seatHeight_15 : decode cX12_seatHeight 15 = .ok (.goto 9, 3) := by decide +kernel
theorem dX12_seatHeight_18 : decode cX12_seatHeight 18 = .ok (.aload_n 0, 1) := by decide +kernel
theorem dX12_seatHeight_19 : decode cX12_seatHeight 19 = .ok (.iload_n 1, 1) := by decide +kernel
theorem dX12_seatHeight_20 : decode cX12_seatHeight 20 = .ok (.iload_n 2, 1) := by decide +kernel
theorem dX12_seatHeight_21 : decode cX12_seatHeight 21 = .ok (.invokevirtual 106, 3) := by decide +kernel
theorem dX12_seatHeight_24 : decode cX12_seatHeight 24 = .ok (.ireturn, 1) := by decide +kernel
theorem dX12_seatPrice_0 : decode cX12_seatPrice 0 = .ok (.aload_n 0, 1) := by decide +kernel
theorem dX12_seatPrice_1 : decode cX12_seatPrice 1 = .ok (.iconst 0, 1) := by decide +kernel
theorem dX12_seatPrice_2 : decode cX12_seatPrice 2 = .ok (.putfield 63, 3) := by decide +kernel
theorem dX12_seatPrice_5 : decode cX12_seatPrice 5 = .ok (.aload_n 0, 1) := by decide +kernel
theorem dX12_seatPrice_6 : decode cX12_seatPrice 6 = .ok (.iload_n 1, 1) := by decide +kernel
theorem dX12_seatPrice_7 : decode cX12_seatPrice 7 = .ok (.iload_n 2, 1) := by decide +kernel
theorem dX12_seatPrice_8 : decode cX12_seatPrice 8 = .ok (.invokevirtual 430, 3) := by decide +kernel
theorem dX12_seatPrice_11 : decode cX12_seatPrice 11 = .ok (.ifCond .eq 7, 3) := by decide +kernel
theorem dX12_seatPrice_14 : decode cX12_seatPrice 14 = .ok (.iconst 0, 1) := by decide +kernel
theorem dX12_seatPrice_15 : decode cX12_seatPrice 15 = .ok (.goto 9, 3) := by decide +kernel
theorem dX12_seatPrice_18 : decode cX12_seatPrice 18 = .ok (.aload_n 0, 1) := by decide +kernel
theorem dX12_seatPrice_19 : decode cX12_seatPrice 19 = .ok (.iload_n 1, 1) := by decide +kernel
theorem dX12_seatPrice_20 : decode cX12_seatPrice 20 = .ok (.iload_n 2, 1) := by decide +kernel
theorem dX12_seatPrice_21 : decode cX12_seatPrice 21 = .ok (.invokevirtual 142, 3) := by decide +kernel
theorem dX12_seatPrice_24 : decode cX12_seatPrice 24 = .ok (.ireturn, 1) := by decide +kernel
theorem dX12_balancingSeat_0 : decode cX12_balancingSeat 0 = .ok (.aload_n 0, 1) := by decide +kernel
theorem dX12_balancingSeat_1 : decode cX12_balancingSeat 1 = .ok (.iconst 0, 1) := by decide +kernel
theorem dX12_balancingSeat_2 : decode cX12_balancingSeat 2 = .ok (.putfield 63, 3) := by decide +kernel
theorem dX12_balancingSeat_5 : decode cX12_balancingSeat 5 = .ok (.aload_n 0, 1) := by decide +kernel
theorem dX12_balancingSeat_6 : decode cX12_balancingSeat 6 = .ok (.iload_n 1, 1) := by decide +kernel
theorem dX12_balancingSeat_7 : decode cX12_balancingSeat 7 = .ok (.invokevirtual 417, 3) := by decide +kernel
theorem dX12_balancingSeat_10 : decode cX12_balancingSeat 10 = .ok (.ifCond .ne 28, 3) := by decide +kernel
theorem dX12_balancingSeat_13 : decode cX12_balancingSeat 13 = .ok (.aload_n 0, 1) := by decide +kernel
theorem dX12_balancingSeat_14 : decode cX12_balancingSeat 14 = .ok (.iload_n 2, 1) := by decide +kernel
theorem dX12_balancingSeat_15 : decode cX12_balancingSeat 15 = .ok (.i2l, 1) := by decide +kernel
theorem dX12_balancingSeat_16 : decode cX12_balancingSeat 16 = .ok (.lconst 1, 1) := by decide +kernel
theorem dX12_balancingSeat_17 : decode cX12_balancingSeat 17 = .ok (.ldc2_w 420, 3) := by decide +kernel
theorem dX12_balancingSeat_20 : decode cX12_balancingSeat 20 = .ok (.invokestatic 86, 3) := by decide +kernel
theorem dX12_balancingSeat_23 : decode cX12_balancingSeat 23 = .ok (.ifCond .ne 7, 3) := by decide +kernel
theorem dX12_balancingSeat_26 : decode cX12_balancingSeat 26 = .ok (.iconst 1, 1) := by decide +kernel
theorem dX12_balancingSeat_27 : decode cX12_balancingSeat 27 = .ok (.goto 4, 3) := by decide +kernel
theorem dX12_balancingSeat_30 : decode cX12_balancingSeat 30 = .ok (.iconst 0, 1) := by decide +kernel
theorem dX12_balancingSeat_31 : decode cX12_balancingSeat 31 = .ok (.iconst 2, 1) := by decide +kernel
theorem dX12_balancingSeat_32 : decode cX12_balancingSeat 32 = .ok (.invokevirtual 161, 3) := by decide +kernel
theorem dX12_balancingSeat_35 : decode cX12_balancingSeat 35 = .ok (.ifCond .eq 5, 3) := by decide +kernel
theorem dX12_balancingSeat_38 : decode cX12_balancingSeat 38 = .ok (.iconst 0, 1) := by decide +kernel
theorem dX12_balancingSeat_39 : decode cX12_balancingSeat 39 = .ok (.ireturn, 1) := by decide +kernel
theorem dX12_balancingSeat_40 : decode cX12_balancingSeat 40 = .ok (.iconst 0, 1) := by decide +kernel
theorem dX12_balancingSeat_41 : decode cX12_balancingSeat 41 = .ok (.istore_n 3, 1) := by decide +kernel
theorem dX12_balancingSeat_42 : decode cX12_balancingSeat 42 = .ok (.aload_n 0, 1) := by decide +kernel
theorem dX12_balancingSeat_43 : decode cX12_balancingSeat 43 = .ok (.iload_n 1, 1) := by decide +kernel
theorem dX12_balancingSeat_44 : decode cX12_balancingSeat 44 = .ok (.invokevirtual 99, 3) := by decide +kernel
theorem dX12_balancingSeat_47 : decode cX12_balancingSeat 47 = .ok (.istore 4, 2) := by decide +kernel
theorem dX12_balancingSeat_49 : decode cX12_balancingSeat 49 = .ok (.aload_n 0, 1) := by decide +kernel
theorem dX12_balancingSeat_50 : decode cX12_balancingSeat 50 = .ok (.iload_n 1, 1) := by decide +kernel
theorem dX12_balancingSeat_51 : decode cX12_balancingSeat 51 = .ok (.iconst 0, 1) := by decide +kernel
theorem dX12_balancingSeat_52 : decode cX12_balancingSeat 52 = .ok (.invokevirtual 83, 3) := by decide +kernel
theorem dX12_balancingSeat_55 : decode cX12_balancingSeat 55 = .ok (.ineg, 1) := by decide +kernel
theorem dX12_balancingSeat_56 : decode cX12_balancingSeat 56 = .ok (.istore 5, 2) := by decide +kernel
theorem dX12_balancingSeat_58 : decode cX12_balancingSeat 58 = .ok (.iload 5, 2) := by decide +kernel
theorem dX12_balancingSeat_60 : decode cX12_balancingSeat 60 = .ok (.aload_n 0, 1) := by decide +kernel
theorem dX12_balancingSeat_61 : decode cX12_balancingSeat 61 = .ok (.iload_n 1, 1) := by decide +kernel
theorem dX12_balancingSeat_62 : decode cX12_balancingSeat 62 = .ok (.iconst 0, 1) := by decide +kernel
theorem dX12_balancingSeat_63 : decode cX12_balancingSeat 63 = .ok (.invokevirtual 83, 3) := by decide +kernel
theorem dX12_balancingSeat_66 : decode cX12_balancingSeat 66 = .ok (.if_icmp .gt 66, 3) := by decide +kernel
theorem dX12_balancingSeat_69 : decode cX12_balancingSeat 69 = .ok (.iload 5, 2) := by decide +kernel
theorem dX12_balancingSeat_71 : decode cX12_balancingSeat 71 = .ok (.ifCond .eq 18, 3) := by decide +kernel
theorem dX12_balancingSeat_74 : decode cX12_balancingSeat 74 = .ok (.aload_n 0, 1) := by decide +kernel
theorem dX12_balancingSeat_75 : decode cX12_balancingSeat 75 = .ok (.iload_n 1, 1) := by decide +kernel
theorem dX12_balancingSeat_76 : decode cX12_balancingSeat 76 = .ok (.iload 5, 2) := by decide +kernel
theorem dX12_balancingSeat_78 : decode cX12_balancingSeat 78 = .ok (.invokevirtual 90, 3) := by decide +kernel
theorem dX12_balancingSeat_81 : decode cX12_balancingSeat 81 = .ok (.iconst (-1), 1) := by decide +kernel
theorem dX12_balancingSeat_82 : decode cX12_balancingSeat 82 = .ok (.if_icmp .ne 7, 3) := by decide +kernel
theorem dX12_balancingSeat_85 : decode cX12_balancingSeat 85 = .ok (.iconst 1, 1) := by decide +kernel
theorem dX12_balancingSeat_86 : decode cX12_balancingSeat 86 = .ok (.goto 4, 3) := by decide +kernel
theorem dX12_balancingSeat_89 : decode cX12_balancingSeat 89 = .ok (.iconst 0, 1) := by decide +kernel
theorem dX12_balancingSeat_90 : decode cX12_balancingSeat 90 = .ok (.istore 6, 2) := by decide +kernel
theorem dX12_balancingSeat_92 : decode cX12_balancingSeat 92 = .ok (.iload 6, 2) := by decide +kernel
theorem dX12_balancingSeat_94 : decode cX12_balancingSeat 94 = .ok (.ifCond .eq 32, 3) := by decide +kernel
theorem dX12_balancingSeat_97 : decode cX12_balancingSeat 97 = .ok (.iload_n 3, 1) := by decide +kernel
theorem dX12_balancingSeat_98 : decode cX12_balancingSeat 98 = .ok (.ifCond .eq 25, 3) := by decide +kernel
theorem dX12_balancingSeat_101 : decode cX12_balancingSeat 101 = .ok (.iload 4, 2) := by decide +kernel
theorem dX12_balancingSeat_103 : decode cX12_balancingSeat 103 = .ok (.iload 5, 2) := by decide +kernel
theorem dX12_balancingSeat_105 : decode cX12_balancingSeat 105 = .ok (.iload_n 2, 1) := by decide +kernel
theorem dX12_balancingSeat_106 : decode cX12_balancingSeat 106 = .ok (.imul, 1) := by decide +kernel
theorem dX12_balancingSeat_107 : decode cX12_balancingSeat 107 = .ok (.iadd, 1) := by decide +kernel
theorem dX12_balancingSeat_108 : decode cX12_balancingSeat 108 = .ok (.invokestatic 109, 3) := by decide +kernel
theorem dX12_balancingSeat_111 : decode cX12_balancingSeat 111 = .ok (.iload 4, 2) := by decide +kernel
theorem dX12_balancingSeat_113 : decode cX12_balancingSeat 113 = .ok (.iload_n 3, 1) := by decide +kernel
theorem dX12_balancingSeat_114 : decode cX12_balancingSeat 114 = .ok (.iload_n 2, 1) := by decide +kernel
theorem dX12_balancingSeat_115 : decode cX12_balancingSeat 115 = .ok (.imul, 1) := by decide +kernel
theorem dX12_balancingSeat_116 : decode cX12_balancingSeat 116 = .ok (.iadd, 1) := by decide +kernel
theorem dX12_balancingSeat_117 : decode cX12_balancingSeat 117 = .ok (.invokestatic 109, 3) := by decide +kernel
theorem dX12_balancingSeat_120 : decode cX12_balancingSeat 120 = .ok (.if_icmp .ge 6, 3) := by decide +kernel
theorem dX12_balancingSeat_123 : decode cX12_balancingSeat 123 = .ok (.iload 5, 2) := by decide +kernel
theorem dX12_balancingSeat_125 : decode cX12_balancingSeat 125 = .ok (.istore_n 3, 1) := by decide +kernel
theorem dX12_balancingSeat_126 : decode cX12_balancingSeat 126 = .ok (.iinc 5 1, 3) := by decide +kernel
theorem dX12_balancingSeat_129 : decode cX12_balancingSeat 129 = .ok (.goto (-71), 3) := by decide +kernel
theorem dX12_balancingSeat_132 : decode cX12_balancingSeat 132 = .ok (.iload_n 3, 1) := by decide +kernel
theorem dX12_balancingSeat_133 : decode cX12_balancingSeat 133 = .ok (.ireturn, 1) := by decide +kernel
theorem dX12_traderCount_0 : decode cX12_traderCount 0 = .ok (.aload_n 0, 1) := by decide +kernel
theorem dX12_traderCount_1 : decode cX12_traderCount 1 = .ok (.iconst 0, 1) := by decide +kernel
theorem dX12_traderCount_2 : decode cX12_traderCount 2 = .ok (.putfield 63, 3) := by decide +kernel
theorem dX12_traderCount_5 : decode cX12_traderCount 5 = .ok (.aload_n 0, 1) := by decide +kernel
theorem dX12_traderCount_6 : decode cX12_traderCount 6 = .ok (.getfield 7, 3) := by decide +kernel
theorem dX12_traderCount_9 : decode cX12_traderCount 9 = .ok (.bipush 8, 2) := by decide +kernel
theorem dX12_traderCount_11 : decode cX12_traderCount 11 = .ok (.iaload, 1) := by decide +kernel
theorem dX12_traderCount_12 : decode cX12_traderCount 12 = .ok (.ireturn, 1) := by decide +kernel
theorem dX12_findTrader_0 : decode cX12_findTrader 0 = .ok (.aload_n 0, 1) := by decide +kernel
theorem dX12_findTrader_1 : decode cX12_findTrader 1 = .ok (.iconst 0, 1) := by decide +kernel
theorem dX12_findTrader_2 : decode cX12_findTrader 2 = .ok (.putfield 63, 3) := by decide +kernel
theorem dX12_findTrader_5 : decode cX12_findTrader 5 = .ok (.aload_n 0, 1) := by decide +kernel
theorem dX12_findTrader_6 : decode cX12_findTrader 6 = .ok (.invokevirtual 424, 3) := by decide +kernel
theorem dX12_findTrader_9 : decode cX12_findTrader 9 = .ok (.istore_n 1, 1) := by decide +kernel
theorem dX12_findTrader_10 : decode cX12_findTrader 10 = .ok (.iload_n 1, 1) := by decide +kernel
theorem dX12_findTrader_11 : decode cX12_findTrader 11 = .ok (.ifCond .ne 7, 3) := by decide +kernel
theorem dX12_findTrader_14 : decode cX12_findTrader 14 = .ok (.iconst (-1), 1) := by decide +kernel
theorem dX12_findTrader_15 : decode cX12_findTrader 15 = .ok (.goto 8, 3) := by decide +kernel
theorem dX12_findTrader_18 : decode cX12_findTrader 18 = .ok (.aload_n 0, 1) := by decide +kernel
theorem dX12_findTrader_19 : decode cX12_findTrader 19 = .ok (.iload_n 1, 1) := by decide +kernel
theorem dX12_findTrader_20 : decode cX12_findTrader 20 = .ok (.invokevirtual 232, 3) := by decide +kernel
theorem dX12_findTrader_23 : decode cX12_findTrader 23 = .ok (.ireturn, 1) := by decide +kernel
theorem dX12_lettersOf_0 : decode cX12_lettersOf 0 = .ok (.iconst 0, 1) := by decide +kernel
theorem dX12_lettersOf_1 : decode cX12_lettersOf 1 = .ok (.istore_n 1, 1) := by decide +kernel
theorem dX12_lettersOf_2 : decode cX12_lettersOf 2 = .ok (.iload_n 0, 1) := by decide +kernel
theorem dX12_lettersOf_3 : decode cX12_lettersOf 3 = .ok (.istore_n 2, 1) := by decide +kernel
theorem dX12_lettersOf_4 : decode cX12_lettersOf 4 = .ok (.iload_n 2, 1) := by decide +kernel
theorem dX12_lettersOf_5 : decode cX12_lettersOf 5 = .ok (.ifCond .le 13, 3) := by decide +kernel
theorem dX12_lettersOf_8 : decode cX12_lettersOf 8 = .ok (.iinc 1 1, 3) := by decide +kernel
theorem dX12_lettersOf_11 : decode cX12_lettersOf 11 = .ok (.iload_n 2, 1) := by decide +kernel
theorem dX12_lettersOf_12 : decode cX12_lettersOf 12 = .ok (.iconst 5, 1) := by decide +kernel
theorem dX12_lettersOf_13 : decode cX12_lettersOf 13 = .ok (.ishr, 1) := by decide +kernel
theorem dX12_lettersOf_14 : decode cX12_lettersOf 14 = .ok (.istore_n 2, 1) := by decide +kernel
theorem dX12_lettersOf_15 : decode cX12_lettersOf 15 = .ok (.goto (-11), 3) := by decide +kernel
theorem dX12_lettersOf_18 : decode cX12_lettersOf 18 = .ok (.iload_n 1, 1) := by decide +kernel
theorem dX12_lettersOf_19 : decode cX12_lettersOf 19 = .ok (.ireturn, 1) := by decide +kernel
theorem dX12_letterOf_0 : decode cX12_letterOf 0 = .ok (.iload_n 0, 1) := by decide +kernel
theorem dX12_letterOf_1 : decode cX12_letterOf 1 = .ok (.invokestatic 449, 3) := by decide +kernel
theorem dX12_letterOf_4 : decode cX12_letterOf 4 = .ok (.istore_n 2, 1) := by decide +kernel
theorem dX12_letterOf_5 : decode cX12_letterOf 5 = .ok (.iload_n 1, 1) := by decide +kernel
theorem dX12_letterOf_6 : decode cX12_letterOf 6 = .ok (.i2l, 1) := by decide +kernel
theorem dX12_letterOf_7 : decode cX12_letterOf 7 = .ok (.lconst 0, 1) := by decide +kernel
theorem dX12_letterOf_8 : decode cX12_letterOf 8 = .ok (.iload_n 2, 1) := by decide +kernel
theorem dX12_letterOf_9 : decode cX12_letterOf 9 = .ok (.iconst 1, 1) := by decide +kernel
theorem dX12_letterOf_10 : decode cX12_letterOf 10 = .ok (.isub, 1) := by decide +kernel
theorem dX12_letterOf_11 : decode cX12_letterOf 11 = .ok (.i2l, 1) := by decide +kernel
theorem dX12_letterOf_12 : decode cX12_letterOf 12 = .ok (.invokestatic 86, 3) := by decide +kernel
theorem dX12_letterOf_15 : decode cX12_letterOf 15 = .ok (.ifCond .eq 21, 3) := by decide +kernel
theorem dX12_letterOf_18 : decode cX12_letterOf 18 = .ok (.iload_n 0, 1) := by decide +kernel
theorem dX12_letterOf_19 : decode cX12_letterOf 19 = .ok (.iconst 5, 1) := by decide +kernel
theorem dX12_letterOf_20 : decode cX12_letterOf 20 = .ok (.iload_n 2, 1) := by decide +kernel
theorem dX12_letterOf_21 : decode cX12_letterOf 21 = .ok (.iconst 1, 1) := by decide +kernel
theorem dX12_letterOf_22 : decode cX12_letterOf 22 = .ok (.isub, 1) := by decide +kernel
theorem dX12_letterOf_23 : decode cX12_letterOf 23 = .ok (.iload_n 1, 1) := by decide +kernel
theorem dX12_letterOf_24 : decode cX12_letterOf 24 = .ok (.isub, 1) := by decide +kernel
theorem dX12_letterOf_25 : decode cX12_letterOf 25 = .ok (.imul, 1) := by decide +kernel
theorem dX12_letterOf_26 : decode cX12_letterOf 26 = .ok (.ishr, 1) := by decide +kernel
theorem dX12_letterOf_27 : decode cX12_letterOf 27 = .ok (.bipush 31, 2) := by decide +kernel
theorem dX12_letterOf_29 : decode cX12_letterOf 29 = .ok (.iand, 1) := by decide +kernel
theorem dX12_letterOf_30 : decode cX12_letterOf 30 = .ok (.bipush 96, 2) := by decide +kernel
theorem dX12_letterOf_32 : decode cX12_letterOf 32 = .ok (.iadd, 1) := by decide +kernel
theorem dX12_letterOf_33 : decode cX12_letterOf 33 = .ok (.goto 4, 3) := by decide +kernel
theorem dX12_letterOf_36 : decode cX12_letterOf 36 = .ok (.iconst (-1), 1) := by decide +kernel
theorem dX12_letterOf_37 : decode cX12_letterOf 37 = .ok (.ireturn, 1) := by decide +kernel
theorem dX12_nameLetter_0 : decode cX12_nameLetter 0 = .ok (.aload_n 0, 1) := by decide +kernel
theorem dX12_nameLetter_1 : decode cX12_nameLetter 1 = .ok (.iconst 0, 1) := by decide +kernel
theorem dX12_nameLetter_2 : decode cX12_nameLetter 2 = .ok (.putfield 63, 3) := by decide +kernel
theorem dX12_nameLetter_5 : decode cX12_nameLetter 5 = .ok (.aload_n 0, 1) := by decide +kernel
theorem dX12_nameLetter_6 : decode cX12_nameLetter 6 = .ok (.iload_n 1, 1) := by decide +kernel
theorem dX12_nameLetter_7 : decode cX12_nameLetter 7 = .ok (.invokevirtual 427, 3) := by decide +kernel
theorem dX12_nameLetter_10 : decode cX12_nameLetter 10 = .ok (.ifCond .eq 7, 3) := by decide +kernel
theorem dX12_nameLetter_13 : decode cX12_nameLetter 13 = .ok (.iconst 0, 1) := by decide +kernel
theorem dX12_nameLetter_14 : decode cX12_nameLetter 14 = .ok (.goto 13, 3) := by decide +kernel
theorem dX12_nameLetter_17 : decode cX12_nameLetter 17 = .ok (.aload_n 0, 1) := by decide +kernel
theorem dX12_nameLetter_18 : decode cX12_nameLetter 18 = .ok (.iload_n 1, 1) := by decide +kernel
theorem dX12_nameLetter_19 : decode cX12_nameLetter 19 = .ok (.iconst 0, 1) := by decide +kernel
theorem dX12_nameLetter_20 : decode cX12_nameLetter 20 = .ok (.invokevirtual 76, 3) := by decide +kernel
theorem dX12_nameLetter_23 : decode cX12_nameLetter 23 = .ok (.iload_n 2, 1) := by decide +kernel
theorem dX12_nameLetter_24 : decode cX12_nameLetter 24 = .ok (.invokestatic 452, 3) := by decide +kernel
theorem dX12_nameLetter_27 : decode cX12_nameLetter 27 = .ok (.ireturn, 1) := by decide +kernel
theorem dX12_asked_0 : decode cX12_asked 0 = .ok (.aload_n 0, 1) := by decide +kernel
theorem dX12_asked_1 : decode cX12_asked 1 = .ok (.iconst 0, 1) := by decide +kernel
theorem dX12_asked_2 : decode cX12_asked 2 = .ok (.putfield 63, 3) := by decide +kernel
theorem dX12_asked_5 : decode cX12_asked 5 = .ok (.aload_n 0, 1) := by decide +kernel
theorem dX12_asked_6 : decode cX12_asked 6 = .ok (.iload_n 1, 1) := by decide +kernel
theorem dX12_asked_7 : decode cX12_asked 7 = .ok (.invokevirtual 427, 3) := by decide +kernel
theorem dX12_asked_10 : decode cX12_asked 10 = .ok (.ifCond .eq 7, 3) := by decide +kernel
theorem dX12_asked_13 : decode cX12_asked 13 = .ok (.iconst 0, 1) := by decide +kernel
theorem dX12_asked_14 : decode cX12_asked 14 = .ok (.goto 9, 3) := by decide +kernel
theorem dX12_asked_17 : decode cX12_asked 17 = .ok (.aload_n 0, 1) := by decide +kernel
theorem dX12_asked_18 : decode cX12_asked 18 = .ok (.iload_n 1, 1) := by decide +kernel
theorem dX12_asked_19 : decode cX12_asked 19 = .ok (.iload_n 2, 1) := by decide +kernel
theorem dX12_asked_20 : decode cX12_asked 20 = .ok (.invokevirtual 76, 3) := by decide +kernel
theorem dX12_asked_23 : decode cX12_asked 23 = .ok (.ireturn, 1) := by decide +kernel
theorem dX12_weightOf_0 : decode cX12_weightOf 0 = .ok (.aload_n 0, 1) := by decide +kernel
theorem dX12_weightOf_1 : decode cX12_weightOf 1 = .ok (.iload_n 1, 1) := by decide +kernel
theorem dX12_weightOf_2 : decode cX12_weightOf 2 = .ok (.iconst 1, 1) := by decide +kernel
theorem dX12_weightOf_3 : decode cX12_weightOf 3 = .ok (.invokevirtual 455, 3) := by decide +kernel
theorem dX12_weightOf_6 : decode cX12_weightOf 6 = .ok (.ireturn, 1) := by decide +kernel
theorem dX12_purseOf_0 : decode cX12_purseOf 0 = .ok (.aload_n 0, 1) := by decide +kernel
theorem dX12_purseOf_1 : decode cX12_purseOf 1 = .ok (.iload_n 1, 1) := by decide +kernel
theorem dX12_purseOf_2 : decode cX12_purseOf 2 = .ok (.iconst 2, 1) := by decide +kernel
theorem dX12_purseOf_3 : decode cX12_purseOf 3 = .ok (.invokevirtual 455, 3) := by decide +kernel
theorem dX12_purseOf_6 : decode cX12_purseOf 6 = .ok (.ireturn, 1) := by decide +kernel
theorem dX12_ageOf_0 : decode cX12_ageOf 0 = .ok (.aload_n 0, 1) := by decide +kernel
theorem dX12_ageOf_1 : decode cX12_ageOf 1 = .ok (.iload_n 1, 1) := by decide +kernel
theorem dX12_ageOf_2 : decode cX12_ageOf 2 = .ok (.iconst 3, 1) := by decide +kernel
theorem dX12_ageOf_3 : decode cX12_ageOf 3 = .ok (.invokevirtual 455, 3) := by decide +kernel
theorem dX12_ageOf_6 : decode cX12_ageOf 6 = .ok (.ireturn, 1) := by decide +kernel
theorem dX12_isPresent_0 : decode cX12_isPresent 0 = .ok (.aload_n 0, 1) := by decide +kernel
theorem dX12_isPresent_1 : decode cX12_isPresent 1 = .ok (.iconst 0, 1) := by decide +kernel
theorem dX12_isPresent_2 : decode cX12_isPresent 2 = .ok (.putfield 63, 3) := by decide +kernel
theorem dX12_isPresent_5 : decode cX12_isPresent 5 = .ok (.aload_n 0, 1) := by decide +kernel
theorem dX12_isPresent_6 : decode cX12_isPresent 6 = .ok (.iload_n 1, 1) := by decide +kernel
theorem dX12_isPresent_7 : decode cX12_isPresent 7 = .ok (.invokevirtual 427, 3) := by decide +kernel
theorem dX12_isPresent_10 : decode cX12_isPresent 10 = .ok (.ifCond .ne 17, 3) := by decide +kernel
theorem dX12_isPresent_13 : decode cX12_isPresent 13 = .ok (.aload_n 0, 1) := by decide +kernel
theorem dX12_isPresent_14 : decode cX12_isPresent 14 = .ok (.iload_n 1, 1) := by decide +kernel
theorem dX12_isPresent_15 : decode cX12_isPresent 15 = .ok (.iconst 4, 1) := by decide +kernel
theorem dX12_isPresent_16 : decode cX12_isPresent 16 = .ok (.invokevirtual 76, 3) := by decide +kernel
theorem dX12_isPresent_19 : decode cX12_isPresent 19 = .ok (.iconst 1, 1) := by decide +kernel
theorem dX12_isPresent_20 : decode cX12_isPresent 20 = .ok (.if_icmp .ne 7, 3) := by decide +kernel
theorem dX12_isPresent_23 : decode cX12_isPresent 23 = .ok (.iconst 1, 1) := by decide +kernel
theorem dX12_isPresent_24 : decode cX12_isPresent 24 = .ok (.goto 4, 3) := by decide +kernel
theorem dX12_isPresent_27 : decode cX12_isPresent 27 = .ok (.iconst 0, 1) := by decide +kernel
theorem dX12_isPresent_28 : decode cX12_isPresent 28 = .ok (.ireturn, 1) := by decide +kernel
theorem dX12_boardOf_0 : decode cX12_boardOf 0 = .ok (.aload_n 0, 1) := by decide +kernel
theorem dX12_boardOf_1 : decode cX12_boardOf 1 = .ok (.iload_n 1, 1) := by decide +kernel
theorem dX12_boardOf_2 : decode cX12_boardOf 2 = .ok (.iconst 5, 1) := by decide +kernel
theorem dX12_boardOf_3 : decode cX12_boardOf 3 = .ok (.invokevirtual 455, 3) := by decide +kernel
theorem dX12_boardOf_6 : decode cX12_boardOf 6 = .ok (.ireturn, 1) := by decide +kernel
theorem dX12_positionOf_0 : decode cX12_positionOf 0 = .ok (.aload_n 0, 1) := by decide +kernel
theorem dX12_positionOf_1 : decode cX12_positionOf 1 = .ok (.iload_n 1, 1) := by decide +kernel
theorem dX12_positionOf_2 : decode cX12_positionOf 2 = .ok (.bipush 6, 2) := by decide +kernel
theorem dX12_positionOf_4 : decode cX12_positionOf 4 = .ok (.invokevirtual 455, 3) := by decide +kernel
theorem dX12_positionOf_7 : decode cX12_positionOf 7 = .ok (.ireturn, 1) := by decide +kernel
theorem dX12_incomeOf_0 : decode cX12_incomeOf 0 = .ok (.aload_n 0, 1) := by decide +kernel
theorem dX12_incomeOf_1 : decode cX12_incomeOf 1 = .ok (.iconst 0, 1) := by decide +kernel
theorem dX12_incomeOf_2 : decode cX12_incomeOf 2 = .ok (.putfield 63, 3) := by decide +kernel
theorem dX12_incomeOf_5 : decode cX12_incomeOf 5 = .ok (.aload_n 0, 1) := by decide +kernel
theorem dX12_incomeOf_6 : decode cX12_incomeOf 6 = .ok (.iload_n 1, 1) := by decide +kernel
theorem dX12_incomeOf_7 : decode cX12_incomeOf 7 = .ok (.invokevirtual 427, 3) := by decide +kernel
theorem dX12_incomeOf_10 : decode cX12_incomeOf 10 = .ok (.ifCond .ne 11, 3) := by decide +kernel
theorem dX12_incomeOf_13 : decode cX12_incomeOf 13 = .ok (.aload_n 0, 1) := by decide +kernel
theorem dX12_incomeOf_14 : decode cX12_incomeOf 14 = .ok (.iload_n 1, 1) := by decide +kernel
theorem dX12_incomeOf_15 : decode cX12_incomeOf 15 = .ok (.invokevirtual 79, 3) := by decide +kernel
theorem dX12_incomeOf_18 : decode cX12_incomeOf 18 = .ok (.ifCond .ne 7, 3) := by decide +kernel
theorem dX12_incomeOf_21 : decode cX12_incomeOf 21 = .ok (.iconst 0, 1) := by decide +kernel
theorem dX12_incomeOf_22 : decode cX12_incomeOf 22 = .ok (.goto 15, 3) := by decide +kernel
theorem dX12_incomeOf_25 : decode cX12_incomeOf 25 = .ok (.aload_n 0, 1) := by decide +kernel
theorem dX12_incomeOf_26 : decode cX12_incomeOf 26 = .ok (.getfield 7, 3) := by decide +kernel
theorem dX12_incomeOf_29 : decode cX12_incomeOf 29 = .ok (.iconst 0, 1) := by decide +kernel
theorem dX12_incomeOf_30 : decode cX12_incomeOf 30 = .ok (.iaload, 1) := by decide +kernel
theorem dX12_incomeOf_31 : decode cX12_incomeOf 31 = .ok (.aload_n 0, 1) := by decide +kernel
theorem dX12_incomeOf_32 : decode cX12_incomeOf 32 = .ok (.iload_n 1, 1) := by decide +kernel
theorem dX12_incomeOf_33 : decode cX12_incomeOf 33 = .ok (.invokevirtual 112, 3) := by decide +kernel
theorem dX12_incomeOf_36 : decode cX12_incomeOf 36 = .ok (.iadd, 1) := by decide +kernel
theorem dX12_incomeOf_37 : decode cX12_incomeOf 37 = .ok (.ireturn, 1) := by decide +kernel
theorem dX12_isRicher_0 : decode cX12_isRicher 0 = .ok (.aload_n 0, 1) := by decide +kernel
theorem dX12_isRicher_1 : decode cX12_isRicher 1 = .ok (.iload_n 1, 1) := by decide +kernel
theorem dX12_isRicher_2 : decode cX12_isRicher 2 = .ok (.iconst 2, 1) := by decide +kernel
theorem dX12_isRicher_3 : decode cX12_isRicher 3 = .ok (.invokevirtual 76, 3) := by decide +kernel
theorem dX12_isRicher_6 : decode cX12_isRicher 6 = .ok (.aload_n 0, 1) := by decide +kernel
theorem dX12_isRicher_7 : decode cX12_isRicher 7 = .ok (.iload_n 2, 1) := by decide +kernel
theorem dX12_isRicher_8 : decode cX12_isRicher 8 = .ok (.iconst 2, 1) := by decide +kernel
theorem dX12_isRicher_9 : decode cX12_isRicher 9 = .ok (.invokevirtual 76, 3) := by decide +kernel
theorem dX12_isRicher_12 : decode cX12_isRicher 12 = .ok (.if_icmp .gt 23, 3) := by decide +kernel
theorem dX12_isRicher_15 : decode cX12_isRicher 15 = .ok (.aload_n 0, 1) := by decide +kernel
theorem dX12_isRicher_16 : decode cX12_isRicher 16 = .ok (.iload_n 1, 1) := by decide +kernel
theorem dX12_isRicher_17 : decode cX12_isRicher 17 = .ok (.iconst 2, 1) := by decide +kernel
theorem dX12_isRicher_18 : decode cX12_isRicher 18 = .ok (.invokevirtual 76, 3) := by decide +kernel
theorem dX12_isRicher_21 : decode cX12_isRicher 21 = .ok (.aload_n 0, 1) := by decide +kernel
theorem dX12_isRicher_22 : decode cX12_isRicher 22 = .ok (.iload_n 2, 1) := by decide +kernel
theorem dX12_isRicher_23 : decode cX12_isRicher 23 = .ok (.iconst 2, 1) := by decide +kernel
theorem dX12_isRicher_24 : decode cX12_isRicher 24 = .ok (.invokevirtual 76, 3) := by decide +kernel
theorem dX12_isRicher_27 : decode cX12_isRicher 27 = .ok (.if_icmp .ne 12, 3) := by decide +kernel
theorem dX12_isRicher_30 : decode cX12_isRicher 30 = .ok (.iload_n 1, 1) := by decide +kernel
theorem dX12_isRicher_31 : decode cX12_isRicher 31 = .ok (.iload_n 2, 1) := by decide +kernel
theorem dX12_isRicher_32 : decode cX12_isRicher 32 = .ok (.if_icmp .ge 7, 3) := by decide +kernel
theorem dX12_isRicher_35 : decode cX12_isRicher 35 = .ok (.iconst 1, 1) := by decide +kernel
theorem dX12_isRicher_36 : decode cX12_isRicher 36 = .ok (.goto 4, 3) := by decide +kernel
theorem dX12_isRicher_39 : decode cX12_isRicher 39 = .ok (.iconst 0, 1) := by decide +kernel
theorem dX12_isRicher_40 : decode cX12_isRicher 40 = .ok (.ireturn, 1) := by decide +kernel
theorem dX12_richerThan_0 : decode cX12_richerThan 0 = .ok (.iconst 0, 1) := by decide +kernel
theorem dX12_richerThan_1 : decode cX12_richerThan 1 = .ok (.istore_n 2, 1) := by decide +kernel
theorem dX12_richerThan_2 : decode cX12_richerThan 2 = .ok (.iconst 0, 1) := by decide +kernel
theorem dX12_richerThan_3 : decode cX12_richerThan 3 = .ok (.istore_n 3, 1) := by decide +kernel
theorem dX12_richerThan_4 : decode cX12_richerThan 4 = .ok (.iload_n 3, 1) := by decide +kernel
theorem dX12_richerThan_5 : decode cX12_richerThan 5 = .ok (.aload_n 0, 1) := by decide +kernel
theorem dX12_richerThan_6 : decode cX12_richerThan 6 = .ok (.getfield 7, 3) := by decide +kernel
theorem dX12_richerThan_9 : decode cX12_richerThan 9 = .ok (.bipush 8, 2) := by decide +kernel
theorem dX12_richerThan_11 : decode cX12_richerThan 11 = .ok (.iaload, 1) := by decide +kernel
theorem dX12_richerThan_12 : decode cX12_richerThan 12 = .ok (.if_icmp .ge 44, 3) := by decide +kernel
theorem dX12_richerThan_15 : decode cX12_richerThan 15 = .ok (.iload_n 2, 1) := by decide +kernel
theorem dX12_richerThan_16 : decode cX12_richerThan 16 = .ok (.iload_n 3, 1) := by decide +kernel
theorem dX12_richerThan_17 : decode cX12_richerThan 17 = .ok (.iload_n 1, 1) := by decide +kernel
theorem dX12_richerThan_18 : decode cX12_richerThan 18 = .ok (.if_icmp .eq 26, 3) := by decide +kernel
theorem dX12_richerThan_21 : decode cX12_richerThan 21 = .ok (.aload_n 0, 1) := by decide +kernel
theorem dX12_richerThan_22 : decode cX12_richerThan 22 = .ok (.iload_n 3, 1) := by decide +kernel
theorem dX12_richerThan_23 : decode cX12_richerThan 23 = .ok (.iconst 4, 1) := by decide +kernel
theorem dX12_richerThan_24 : decode cX12_richerThan 24 = .ok (.invokevirtual 76, 3) := by decide +kernel
theorem dX12_richerThan_27 : decode cX12_richerThan 27 = .ok (.iconst 1, 1) := by decide +kernel
theorem dX12_richerThan_28 : decode cX12_richerThan 28 = .ok (.if_icmp .ne 16, 3) := by decide +kernel
theorem dX12_richerThan_31 : decode cX12_richerThan 31 = .ok (.aload_n 0, 1) := by decide +kernel
theorem dX12_richerThan_32 : decode cX12_richerThan 32 = .ok (.iload_n 3, 1) := by decide +kernel
theorem dX12_richerThan_33 : decode cX12_richerThan 33 = .ok (.iload_n 1, 1) := by decide +kernel
theorem dX12_richerThan_34 : decode cX12_richerThan 34 = .ok (.invokevirtual 458, 3) := by decide +kernel
theorem dX12_richerThan_37 : decode cX12_richerThan 37 = .ok (.ifCond .eq 7, 3) := by decide +kernel
theorem dX12_richerThan_40 : decode cX12_richerThan 40 = .ok (.iconst 1, 1) := by decide +kernel
theorem dX12_richerThan_41 : decode cX12_richerThan 41 = .ok (.goto 4, 3) := by decide +kernel
theorem dX12_richerThan_44 : decode cX12_richerThan 44 = .ok (.iconst 0, 1) := by decide +kernel
theorem dX12_richerThan_45 : decode cX12_richerThan 45 = .ok (.invokestatic 324, 3) := by decide +kernel
theorem dX12_richerThan_48 : decode cX12_richerThan 48 = .ok (.iadd, 1) := by decide +kernel
theorem dX12_richerThan_49 : decode cX12_richerThan 49 = .ok (.istore_n 2, 1) := by decide +kernel
theorem dX12_richerThan_50 : decode cX12_richerThan 50 = .ok (.iinc 3 1, 3) := by decide +kernel
theorem dX12_richerThan_53 : decode cX12_richerThan 53 = .ok (.goto (-49), 3) := by decide +kernel
theorem dX12_richerThan_56 : decode cX12_richerThan 56 = .ok (.iload_n 2, 1) := by decide +kernel
theorem dX12_richerThan_57 : decode cX12_richerThan 57 = .ok (.ireturn, 1) := by decide +kernel
theorem dX12_richestAt_0 : decode cX12_richestAt 0 = .ok (.aload_n 0, 1) := by decide +kernel
theorem dX12_richestAt_1 : decode cX12_richestAt 1 = .ok (.iconst 0, 1) := by decide +kernel
theorem dX12_richestAt_2 : decode cX12_richestAt 2 = .ok (.putfield 63, 3) := by decide +kernel
theorem dX12_richestAt_5 : decode cX12_richestAt 5 = .ok (.iconst 0, 1) := by decide +kernel
theorem dX12_richestAt_6 : decode cX12_richestAt 6 = .ok (.istore_n 2, 1) := by decide +kernel
theorem dX12_richestAt_7 : decode cX12_richestAt 7 = .ok (.iload_n 2, 1) := by decide +kernel
theorem dX12_richestAt_8 : decode cX12_richestAt 8 = .ok (.aload_n 0, 1) := by decide +kernel
theorem dX12_richestAt_9 : decode cX12_richestAt 9 = .ok (.getfield 7, 3) := by decide +kernel
theorem dX12_richestAt_12 : decode cX12_richestAt 12 = .ok (.bipush 8, 2) := by decide +kernel
theorem dX12_richestAt_14 : decode cX12_richestAt 14 = .ok (.iaload, 1) := by decide +kernel
theorem dX12_richestAt_15 : decode cX12_richestAt 15 = .ok (.if_icmp .ge 30, 3) := by decide +kernel
theorem dX12_richestAt_18 : decode cX12_richestAt 18 = .ok (.aload_n 0, 1) := by decide +kernel
theorem dX12_richestAt_19 : decode cX12_richestAt 19 = .ok (.iload_n 2, 1) := by decide +kernel
theorem dX12_richestAt_20 : decode cX12_richestAt 20 = .ok (.iconst 4, 1) := by decide +kernel
theorem dX12_richestAt_21 : decode cX12_richestAt 21 = .ok (.invokevirtual 76, 3) := by decide +kernel
theorem dX12_richestAt_24 : decode cX12_richestAt 24 = .ok (.iconst 1, 1) := by decide +kernel
theorem dX12_richestAt_25 : decode cX12_richestAt 25 = .ok (.if_icmp .ne 14, 3) := by decide +kernel
theorem dX12_richestAt_28 : decode cX12_richestAt 28 = .ok (.aload_n 0, 1) := by decide +kernel
theorem dX12_richestAt_29 : decode cX12_richestAt 29 = .ok (.iload_n 2, 1) := by decide +kernel
theorem dX12_richestAt_30 : decode cX12_richestAt 30 = .ok (.invokevirtual 461, 3) := by decide +kernel
theorem dX12_richestAt_33 : decode cX12_richestAt 33 = .ok (.iload_n 1, 1) := by decide +kernel
theorem dX12_richestAt_34 : decode cX12_richestAt 34 = .ok (.if_icmp .ne 5, 3) := by decide +kernel
theorem dX12_richestAt_37 : decode cX12_richestAt 37 = .ok (.iload_n 2, 1) := by decide +kernel
theorem dX12_richestAt_38 : decode cX12_richestAt 38 = .ok (.ireturn, 1) := by decide +kernel
theorem dX12_richestAt_39 : decode cX12_richestAt 39 = .ok (.iinc 2 1, 3) := by decide +kernel
theorem dX12_richestAt_42 : decode cX12_richestAt 42 = .ok (.goto (-35), 3) := by decide +kernel
theorem dX12_richestAt_45 : decode cX12_richestAt 45 = .ok (.iconst (-1), 1) := by decide +kernel
theorem dX12_richestAt_46 : decode cX12_richestAt 46 = .ok (.ireturn, 1) := by decide +kernel
theorem dX12_reasonAgainstSeat_0 : decode cX12_reasonAgainstSeat 0 = .ok (.aload_n 0, 1) := by decide +kernel
theorem dX12_reasonAgainstSeat_1 : decode cX12_reasonAgainstSeat 1 = .ok (.iconst 0, 1) := by decide +kernel
theorem dX12_reasonAgainstSeat_2 : decode cX12_reasonAgainstSeat 2 = .ok (.putfield 63, 3) := by decide +kernel
theorem dX12_reasonAgainstSeat_5 : decode cX12_reasonAgainstSeat 5 = .ok (.aload_n 0, 1) := by decide +kernel
theorem dX12_reasonAgainstSeat_6 : decode cX12_reasonAgainstSeat 6 = .ok (.iload_n 1, 1) := by decide +kernel
theorem dX12_reasonAgainstSeat_7 : decode cX12_reasonAgainstSeat 7 = .ok (.invokevirtual 427, 3) := by decide +kernel
theorem dX12_reasonAgainstSeat_10 : decode cX12_reasonAgainstSeat 10 = .ok (.ifCond .ne 12, 3) := by decide +kernel
theorem dX12_reasonAgainstSeat_13 : decode cX12_reasonAgainstSeat 13 = .ok (.aload_n 0, 1) := by decide +kernel
theorem dX12_reasonAgainstSeat_14 : decode cX12_reasonAgainstSeat 14 = .ok (.iload_n 2, 1) := by decide +kernel
theorem dX12_reasonAgainstSeat_15 : decode cX12_reasonAgainstSeat 15 = .ok (.iload_n 3, 1) := by decide +kernel
theorem dX12_reasonAgainstSeat_16 : decode cX12_reasonAgainstSeat 16 = .ok (.invokevirtual 430, 3) := by decide +kernel
theorem dX12_reasonAgainstSeat_19 : decode cX12_reasonAgainstSeat 19 = .ok (.ifCond .eq 7, 3) := by decide +kernel
theorem dX12_reasonAgainstSeat_22 : decode cX12_reasonAgainstSeat 22 = .ok (.iconst 0, 1) := by decide +kernel
theorem dX12_reasonAgainstSeat_23 : decode cX12_reasonAgainstSeat 23 = .ok (.goto 10, 3) := by decide +kernel
theorem dX12_reasonAgainstSeat_26 : decode cX12_reasonAgainstSeat 26 = .ok (.aload_n 0, 1) := by decide +kernel
theorem dX12_reasonAgainstSeat_27 : decode cX12_reasonAgainstSeat 27 = .ok (.iload_n 1, 1) := by decide +kernel
theorem dX12_reasonAgainstSeat_28 : decode cX12_reasonAgainstSeat 28 = .ok (.iload_n 2, 1) := by decide +kernel
theorem dX12_reasonAgainstSeat_29 : decode cX12_reasonAgainstSeat 29 = .ok (.iload_n 3, 1) := by decide +kernel
theorem dX12_reasonAgainstSeat_30 : decode cX12_reasonAgainstSeat 30 = .ok (.invokevirtual 344, 3) := by decide +kernel
theorem dX12_reasonAgainstSeat_33 : decode cX12_reasonAgainstSeat 33 = .ok (.ireturn, 1) := by decide +kernel
theorem dX12_reasonAgainstSale_0 : decode cX12_reasonAgainstSale 0 = .ok (.aload_n 0, 1) := by decide +kernel
theorem dX12_reasonAgainstSale_1 : decode cX12_reasonAgainstSale 1 = .ok (.iconst 0, 1) := by decide +kernel
theorem dX12_reasonAgainstSale_2 : decode cX12_reasonAgainstSale 2 = .ok (.putfield 63, 3) := by decide +kernel
theorem dX12_reasonAgainstSale_5 : decode cX12_reasonAgainstSale 5 = .ok (.aload_n 0, 1) := by decide +kernel
theorem dX12_reasonAgainstSale_6 : decode cX12_reasonAgainstSale 6 = .ok (.iload_n 1, 1) := by decide +kernel
theorem dX12_reasonAgainstSale_7 : decode cX12_reasonAgainstSale 7 = .ok (.iload_n 2, 1) := by decide +kernel
theorem dX12_reasonAgainstSale_8 : decode cX12_reasonAgainstSale 8 = .ok (.iload_n 3, 1) := by decide +kernel
theorem dX12_reasonAgainstSale_9 : decode cX12_reasonAgainstSale 9 = .ok (.invokevirtual 435, 3) := by decide +kernel
theorem dX12_reasonAgainstSale_12 : decode cX12_reasonAgainstSale 12 = .ok (.ifCond .eq 7, 3) := by decide +kernel
theorem dX12_reasonAgainstSale_15 : decode cX12_reasonAgainstSale 15 = .ok (.iconst 0, 1) := by decide +kernel
theorem dX12_reasonAgainstSale_16 : decode cX12_reasonAgainstSale 16 = .ok (.goto 10, 3) := by decide +kernel
theorem dX12_reasonAgainstSale_19 : decode cX12_reasonAgainstSale 19 = .ok (.aload_n 0, 1) := by decide +kernel
theorem dX12_reasonAgainstSale_20 : decode cX12_reasonAgainstSale 20 = .ok (.iload_n 1, 1) := by decide +kernel
theorem dX12_reasonAgainstSale_21 : decode cX12_reasonAgainstSale 21 = .ok (.iload_n 2, 1) := by decide +kernel
theorem dX12_reasonAgainstSale_22 : decode cX12_reasonAgainstSale 22 = .ok (.iload_n 3, 1) := by decide +kernel
theorem dX12_reasonAgainstSale_23 : decode cX12_reasonAgainstSale 23 = .ok (.invokevirtual 356, 3) := by decide +kernel
theorem dX12_reasonAgainstSale_26 : decode cX12_reasonAgainstSale 26 = .ok (.ireturn, 1) := by decide +kernel
theorem dX12_reasonAgainstSwap_0 : decode cX12_reasonAgainstSwap 0 = .ok (.aload_n 0, 1) := by decide +kernel
theorem dX12_reasonAgainstSwap_1 : decode cX12_reasonAgainstSwap 1 = .ok (.iconst 0, 1) := by decide +kernel
theorem dX12_reasonAgainstSwap_2 : decode cX12_reasonAgainstSwap 2 = .ok (.putfield 63, 3) := by decide +kernel
theorem dX12_reasonAgainstSwap_5 : decode cX12_reasonAgainstSwap 5 = .ok (.aload_n 0, 1) := by decide +kernel
theorem dX12_reasonAgainstSwap_6 : decode cX12_reasonAgainstSwap 6 = .ok (.iload_n 1, 1) := by decide +kernel
theorem dX12_reasonAgainstSwap_7 : decode cX12_reasonAgainstSwap 7 = .ok (.iload_n 2, 1) := by decide +kernel
theorem dX12_reasonAgainstSwap_8 : decode cX12_reasonAgainstSwap 8 = .ok (.invokevirtual 439, 3) := by decide +kernel
theorem dX12_reasonAgainstSwap_11 : decode cX12_reasonAgainstSwap 11 = .ok (.ifCond .eq 7, 3) := by decide +kernel
theorem dX12_reasonAgainstSwap_14 : decode cX12_reasonAgainstSwap 14 = .ok (.iconst 0, 1) := by decide +kernel
theorem dX12_reasonAgainstSwap_15 : decode cX12_reasonAgainstSwap 15 = .ok (.goto 9, 3) := by decide +kernel
theorem dX12_reasonAgainstSwap_18 : decode cX12_reasonAgainstSwap 18 = .ok (.aload_n 0, 1) := by decide +kernel
theorem dX12_reasonAgainstSwap_19 : decode cX12_reasonAgainstSwap 19 = .ok (.iload_n 1, 1) := by decide +kernel
theorem dX12_reasonAgainstSwap_20 : decode cX12_reasonAgainstSwap 20 = .ok (.iload_n 2, 1) := by decide +kernel
theorem dX12_reasonAgainstSwap_21 : decode cX12_reasonAgainstSwap 21 = .ok (.invokevirtual 359, 3) := by decide +kernel
theorem dX12_reasonAgainstSwap_24 : decode cX12_reasonAgainstSwap 24 = .ok (.ireturn, 1) := by decide +kernel
theorem dX12_weightUnitPrice_0 : decode cX12_weightUnitPrice 0 = .ok (.aload_n 0, 1) := by decide +kernel
theorem dX12_weightUnitPrice_1 : decode cX12_weightUnitPrice 1 = .ok (.iconst 0, 1) := by decide +kernel
theorem dX12_weightUnitPrice_2 : decode cX12_weightUnitPrice 2 = .ok (.putfield 63, 3) := by decide +kernel
theorem dX12_weightUnitPrice_5 : decode cX12_weightUnitPrice 5 = .ok (.aload_n 0, 1) := by decide +kernel
theorem dX12_weightUnitPrice_6 : decode cX12_weightUnitPrice 6 = .ok (.iload_n 1, 1) := by decide +kernel
theorem dX12_weightUnitPrice_7 : decode cX12_weightUnitPrice 7 = .ok (.invokevirtual 427, 3) := by decide +kernel
theorem dX12_weightUnitPrice_10 : decode cX12_weightUnitPrice 10 = .ok (.ifCond .ne 40, 3) := by decide +kernel
theorem dX12_weightUnitPrice_13 : decode cX12_weightUnitPrice 13 = .ok (.aload_n 0, 1) := by decide +kernel
theorem dX12_weightUnitPrice_14 : decode cX12_weightUnitPrice 14 = .ok (.iload_n 2, 1) := by decide +kernel
theorem dX12_weightUnitPrice_15 : decode cX12_weightUnitPrice 15 = .ok (.invokevirtual 427, 3) := by decide +kernel
theorem dX12_weightUnitPrice_18 : decode cX12_weightUnitPrice 18 = .ok (.ifCond .ne 32, 3) := by decide +kernel
theorem dX12_weightUnitPrice_21 : decode cX12_weightUnitPrice 21 = .ok (.aload_n 0, 1) := by decide +kernel
theorem dX12_weightUnitPrice_22 : decode cX12_weightUnitPrice 22 = .ok (.aload_n 0, 1) := by decide +kernel
theorem dX12_weightUnitPrice_23 : decode cX12_weightUnitPrice 23 = .ok (.iload_n 1, 1) := by decide +kernel
theorem dX12_weightUnitPrice_24 : decode cX12_weightUnitPrice 24 = .ok (.invokevirtual 79, 3) := by decide +kernel
theorem dX12_weightUnitPrice_27 : decode cX12_weightUnitPrice 27 = .ok (.ifCond .eq 11, 3) := by decide +kernel
theorem dX12_weightUnitPrice_30 : decode cX12_weightUnitPrice 30 = .ok (.aload_n 0, 1) := by decide +kernel
theorem dX12_weightUnitPrice_31 : decode cX12_weightUnitPrice 31 = .ok (.iload_n 2, 1) := by decide +kernel
theorem dX12_weightUnitPrice_32 : decode cX12_weightUnitPrice 32 = .ok (.invokevirtual 79, 3) := by decide +kernel
theorem dX12_weightUnitPrice_35 : decode cX12_weightUnitPrice 35 = .ok (.ifCond .ne 7, 3) := by decide +kernel
theorem dX12_weightUnitPrice_38 : decode cX12_weightUnitPrice 38 = .ok (.iconst 1, 1) := by decide +kernel
theorem dX12_weightUnitPrice_39 : decode cX12_weightUnitPrice 39 = .ok (.goto 4, 3) := by decide +kernel
theorem dX12_weightUnitPrice_42 : decode cX12_weightUnitPrice 42 = .ok (.iconst 0, 1) := by decide +kernel
theorem dX12_weightUnitPrice_43 : decode cX12_weightUnitPrice 43 = .ok (.iconst 2, 1) := by decide +kernel
theorem dX12_weightUnitPrice_44 : decode cX12_weightUnitPrice 44 = .ok (.invokevirtual 161, 3) := by decide +kernel
theorem dX12_weightUnitPrice_47 : decode cX12_weightUnitPrice 47 = .ok (.ifCond .eq 5, 3) := by decide +kernel
theorem dX12_weightUnitPrice_50 : decode cX12_weightUnitPrice 50 = .ok (.iconst 0, 1) := by decide +kernel
theorem dX12_weightUnitPrice_51 : decode cX12_weightUnitPrice 51 = .ok (.ireturn, 1) := by decide +kernel
theorem dX12_weightUnitPrice_52 : decode cX12_weightUnitPrice 52 = .ok (.aload_n 0, 1) := by decide +kernel
theorem dX12_weightUnitPrice_53 : decode cX12_weightUnitPrice 53 = .ok (.iload_n 1, 1) := by decide +kernel
theorem dX12_weightUnitPrice_54 : decode cX12_weightUnitPrice 54 = .ok (.iload_n 2, 1) := by decide +kernel
theorem dX12_weightUnitPrice_55 : decode cX12_weightUnitPrice 55 = .ok (.invokevirtual 149, 3) := by decide +kernel
theorem dX12_weightUnitPrice_58 : decode cX12_weightUnitPrice 58 = .ok (.ireturn, 1) := by decide +kernel
theorem dX12_incomeOn_0 : decode cX12_incomeOn 0 = .ok (.aload_n 0, 1) := by decide +kernel
theorem dX12_incomeOn_1 : decode cX12_incomeOn 1 = .ok (.getfield 7, 3) := by decide +kernel
theorem dX12_incomeOn_4 : decode cX12_incomeOn 4 = .ok (.iconst 0, 1) := by decide +kernel
theorem dX12_incomeOn_5 : decode cX12_incomeOn 5 = .ok (.iaload, 1) := by decide +kernel
theorem dX12_incomeOn_6 : decode cX12_incomeOn 6 = .ok (.iload_n 3, 1) := by decide +kernel
theorem dX12_incomeOn_7 : decode cX12_incomeOn 7 = .ok (.aload_n 0, 1) := by decide +kernel
theorem dX12_incomeOn_8 : decode cX12_incomeOn 8 = .ok (.iload_n 2, 1) := by decide +kernel
theorem dX12_incomeOn_9 : decode cX12_incomeOn 9 = .ok (.aload_n 0, 1) := by decide +kernel
theorem dX12_incomeOn_10 : decode cX12_incomeOn 10 = .ok (.iload_n 1, 1) := by decide +kernel
theorem dX12_incomeOn_11 : decode cX12_incomeOn 11 = .ok (.iload_n 2, 1) := by decide +kernel
theorem dX12_incomeOn_12 : decode cX12_incomeOn 12 = .ok (.iload_n 3, 1) := by decide +kernel
theorem dX12_incomeOn_13 : decode cX12_incomeOn 13 = .ok (.invokevirtual 145, 3) := by decide +kernel
theorem dX12_incomeOn_16 : decode cX12_incomeOn 16 = .ok (.invokevirtual 103, 3) := by decide +kernel
theorem dX12_incomeOn_19 : decode cX12_incomeOn 19 = .ok (.imul, 1) := by decide +kernel
theorem dX12_incomeOn_20 : decode cX12_incomeOn 20 = .ok (.isub, 1) := by decide +kernel
theorem dX12_incomeOn_21 : decode cX12_incomeOn 21 = .ok (.ireturn, 1) := by decide +kernel
theorem dX12_bestSeat_0 : decode cX12_bestSeat 0 = .ok (.aload_n 0, 1) := by decide +kernel
theorem dX12_bestSeat_1 : decode cX12_bestSeat 1 = .ok (.iconst 0, 1) := by decide +kernel
theorem dX12_bestSeat_2 : decode cX12_bestSeat 2 = .ok (.putfield 63, 3) := by decide +kernel
theorem dX12_bestSeat_5 : decode cX12_bestSeat 5 = .ok (.aload_n 0, 1) := by decide +kernel
theorem dX12_bestSeat_6 : decode cX12_bestSeat 6 = .ok (.iload_n 1, 1) := by decide +kernel
theorem dX12_bestSeat_7 : decode cX12_bestSeat 7 = .ok (.invokevirtual 427, 3) := by decide +kernel
theorem dX12_bestSeat_10 : decode cX12_bestSeat 10 = .ok (.ifCond .ne 11, 3) := by decide +kernel
theorem dX12_bestSeat_13 : decode cX12_bestSeat 13 = .ok (.aload_n 0, 1) := by decide +kernel
theorem dX12_bestSeat_14 : decode cX12_bestSeat 14 = .ok (.iload_n 2, 1) := by decide +kernel
theorem dX12_bestSeat_15 : decode cX12_bestSeat 15 = .ok (.invokevirtual 417, 3) := by decide +kernel
theorem dX12_bestSeat_18 : decode cX12_bestSeat 18 = .ok (.ifCond .eq 5, 3) := by decide +kernel
theorem dX12_bestSeat_21 : decode cX12_bestSeat 21 = .ok (.iconst 0, 1) := by decide +kernel
theorem dX12_bestSeat_22 : decode cX12_bestSeat 22 = .ok (.ireturn, 1) := by decide +kernel
theorem dX12_bestSeat_23 : decode cX12_bestSeat 23 = .ok (.iconst 0, 1) := by decide +kernel
theorem dX12_bestSeat_24 : decode cX12_bestSeat 24 = .ok (.istore_n 3, 1) := by decide +kernel
theorem dX12_bestSeat_25 : decode cX12_bestSeat 25 = .ok (.aload_n 0, 1) := by decide +kernel
theorem dX12_bestSeat_26 : decode cX12_bestSeat 26 = .ok (.iload_n 2, 1) := by decide +kernel
theorem dX12_bestSeat_27 : decode cX12_bestSeat 27 = .ok (.iconst 0, 1) := by decide +kernel
theorem dX12_bestSeat_28 : decode cX12_bestSeat 28 = .ok (.invokevirtual 83, 3) := by decide +kernel
theorem dX12_bestSeat_31 : decode cX12_bestSeat 31 = .ok (.ineg, 1) := by decide +kernel
theorem dX12_bestSeat_32 : decode cX12_bestSeat 32 = .ok (.istore 4, 2) := by decide +kernel
theorem dX12_bestSeat_34 : decode cX12_bestSeat 34 = .ok (.iload 4, 2) := by decide +kernel
theorem dX12_bestSeat_36 : decode cX12_bestSeat 36 = .ok (.aload_n 0, 1) := by decide +kernel
theorem dX12_bestSeat_37 : decode cX12_bestSeat 37 = .ok (.iload_n 2, 1) := by decide +kernel
theorem dX12_bestSeat_38 : decode cX12_bestSeat 38 = .ok (.iconst 0, 1) := by decide +kernel
theorem dX12_bestSeat_39 : decode cX12_bestSeat 39 = .ok (.invokevirtual 83, 3) := by decide +kernel
theorem dX12_bestSeat_42 : decode cX12_bestSeat 42 = .ok (.if_icmp .gt 62, 3) := by decide +kernel
theorem dX12_bestSeat_45 : decode cX12_bestSeat 45 = .ok (.iload 4, 2) := by decide +kernel
theorem dX12_bestSeat_47 : decode cX12_bestSeat 47 = .ok (.ifCond .eq 18, 3) := by decide +kernel
theorem dX12_bestSeat_50 : decode cX12_bestSeat 50 = .ok (.aload_n 0, 1) := by decide +kernel
theorem dX12_bestSeat_51 : decode cX12_bestSeat 51 = .ok (.iload_n 1, 1) := by decide +kernel
theorem dX12_bestSeat_52 : decode cX12_bestSeat 52 = .ok (.iload_n 2, 1) := by decide +kernel
theorem dX12_bestSeat_53 : decode cX12_bestSeat 53 = .ok (.iload 4, 2) := by decide +kernel
theorem dX12_bestSeat_55 : decode cX12_bestSeat 55 = .ok (.invokevirtual 344, 3) := by decide +kernel
theorem dX12_bestSeat_58 : decode cX12_bestSeat 58 = .ok (.ifCond .ne 7, 3) := by decide +kernel
theorem dX12_bestSeat_61 : decode cX12_bestSeat 61 = .ok (.iconst 1, 1) := by decide +kernel
theorem dX12_bestSeat_62 : decode cX12_bestSeat 62 = .ok (.goto 4, 3) := by decide +kernel
theorem dX12_bestSeat_65 : decode cX12_bestSeat 65 = .ok (.iconst 0, 1) := by decide +kernel
theorem dX12_bestSeat_66 : decode cX12_bestSeat 66 = .ok (.istore 5, 2) := by decide +kernel
theorem dX12_bestSeat_68 : decode cX12_bestSeat 68 = .ok (.iload 5, 2) := by decide +kernel
theorem dX12_bestSeat_70 : decode cX12_bestSeat 70 = .ok (.ifCond .eq 28, 3) := by decide +kernel
theorem dX12_bestSeat_73 : decode cX12_bestSeat 73 = .ok (.iload_n 3, 1) := by decide +kernel
theorem dX12_bestSeat_74 : decode cX12_bestSeat 74 = .ok (.ifCond .eq 21, 3) := by decide +kernel
theorem dX12_bestSeat_77 : decode cX12_bestSeat 77 = .ok (.aload_n 0, 1) := by decide +kernel
theorem dX12_bestSeat_78 : decode cX12_bestSeat 78 = .ok (.iload_n 1, 1) := by decide +kernel
theorem dX12_bestSeat_79 : decode cX12_bestSeat 79 = .ok (.iload_n 2, 1) := by decide +kernel
theorem dX12_bestSeat_80 : decode cX12_bestSeat 80 = .ok (.iload 4, 2) := by decide +kernel
theorem dX12_bestSeat_82 : decode cX12_bestSeat 82 = .ok (.invokevirtual 464, 3) := by decide +kernel
theorem dX12_bestSeat_85 : decode cX12_bestSeat 85 = .ok (.aload_n 0, 1) := by decide +kernel
theorem dX12_bestSeat_86 : decode cX12_bestSeat 86 = .ok (.iload_n 1, 1) := by decide +kernel
theorem dX12_bestSeat_87 : decode cX12_bestSeat 87 = .ok (.iload_n 2, 1) := by decide +kernel
theorem dX12_bestSeat_88 : decode cX12_bestSeat 88 = .ok (.iload_n 3, 1) := by decide +kernel
theorem dX12_bestSeat_89 : decode cX12_bestSeat 89 = .ok (.invokevirtual 464, 3) := by decide +kernel
theorem dX12_bestSeat_92 : decode cX12_bestSeat 92 = .ok (.if_icmp .le 6, 3) := by decide +kernel
theorem dX12_bestSeat_95 : decode cX12_bestSeat 95 = .ok (.iload 4, 2) := by decide +kernel
theorem dX12_bestSeat_97 : decode cX12_bestSeat 97 = .ok (.istore_n 3, 1) := by decide +kernel
theorem dX12_bestSeat_98 : decode cX12_bestSeat 98 = .ok (.iinc 4 1, 3) := by decide +kernel
theorem dX12_bestSeat_101 : decode cX12_bestSeat 101 = .ok (.goto (-67), 3) := by decide +kernel
theorem dX12_bestSeat_104 : decode cX12_bestSeat 104 = .ok (.iload_n 3, 1) := by decide +kernel
theorem dX12_bestSeat_105 : decode cX12_bestSeat 105 = .ok (.ireturn, 1) := by decide +kernel
theorem dX12_seatsSold_0 : decode cX12_seatsSold 0 = .ok (.aload_n 0, 1) := by decide +kernel
theorem dX12_seatsSold_1 : decode cX12_seatsSold 1 = .ok (.iconst 0, 1) := by decide +kernel
theorem dX12_seatsSold_2 : decode cX12_seatsSold 2 = .ok (.putfield 63, 3) := by decide +kernel
theorem dX12_seatsSold_5 : decode cX12_seatsSold 5 = .ok (.aload_n 0, 1) := by decide +kernel
theorem dX12_seatsSold_6 : decode cX12_seatsSold 6 = .ok (.getfield 7, 3) := by decide +kernel
theorem dX12_seatsSold_9 : decode cX12_seatsSold 9 = .ok (.bipush 10, 2) := by decide +kernel
theorem dX12_seatsSold_11 : decode cX12_seatsSold 11 = .ok (.iaload, 1) := by decide +kernel
theorem dX12_seatsSold_12 : decode cX12_seatsSold 12 = .ok (.ireturn, 1) := by decide +kernel
theorem dX12_weightSold_0 : decode cX12_weightSold 0 = .ok (.aload_n 0, 1) := by decide +kernel
theorem dX12_weightSold_1 : decode cX12_weightSold 1 = .ok (.iconst 0, 1) := by decide +kernel
theorem dX12_weightSold_2 : decode cX12_weightSold 2 = .ok (.putfield 63, 3) := by decide +kernel
theorem dX12_weightSold_5 : decode cX12_weightSold 5 = .ok (.aload_n 0, 1) := by decide +kernel
theorem dX12_weightSold_6 : decode cX12_weightSold 6 = .ok (.getfield 7, 3) := by decide +kernel
theorem dX12_weightSold_9 : decode cX12_weightSold 9 = .ok (.bipush 11, 2) := by decide +kernel
theorem dX12_weightSold_11 : decode cX12_weightSold 11 = .ok (.iaload, 1) := by decide +kernel
theorem dX12_weightSold_12 : decode cX12_weightSold 12 = .ok (.ireturn, 1) := by decide +kernel
theorem dX12_fallCount_0 : decode cX12_fallCount 0 = .ok (.aload_n 0, 1) := by decide +kernel
theorem dX12_fallCount_1 : decode cX12_fallCount 1 = .ok (.iconst 0, 1) := by decide +kernel
theorem dX12_fallCount_2 : decode cX12_fallCount 2 = .ok (.putfield 63, 3) := by decide +kernel
theorem dX12_fallCount_5 : decode cX12_fallCount 5 = .ok (.aload_n 0, 1) := by decide +kernel
theorem dX12_fallCount_6 : decode cX12_fallCount 6 = .ok (.getfield 7, 3) := by decide +kernel
theorem dX12_fallCount_9 : decode cX12_fallCount 9 = .ok (.bipush 12, 2) := by decide +kernel
theorem dX12_fallCount_11 : decode cX12_fallCount 11 = .ok (.iaload, 1) := by decide +kernel
theorem dX12_fallCount_12 : decode cX12_fallCount 12 = .ok (.ireturn, 1) := by decide +kernel
theorem dX12_averagePurse_0 : decode cX12_averagePurse 0 = .ok (.aload_n 0, 1) := by decide +kernel
theorem dX12_averagePurse_1 : decode cX12_averagePurse 1 = .ok (.iconst 0, 1) := by decide +kernel
theorem dX12_averagePurse_2 : decode cX12_averagePurse 2 = .ok (.putfield 63, 3) := by decide +kernel
theorem dX12_averagePurse_5 : decode cX12_averagePurse 5 = .ok (.iconst 0, 1) := by decide +kernel
theorem dX12_averagePurse_6 : decode cX12_averagePurse 6 = .ok (.istore_n 1, 1) := by decide +kernel
theorem dX12_averagePurse_7 : decode cX12_averagePurse 7 = .ok (.iconst 0, 1) := by decide +kernel
theorem dX12_averagePurse_8 : decode cX12_averagePurse 8 = .ok (.istore_n 2, 1) := by decide +kernel
theorem dX12_averagePurse_9 : decode cX12_averagePurse 9 = .ok (.iconst 0, 1) := by decide +kernel
theorem dX12_averagePurse_10 : decode cX12_averagePurse 10 = .ok (.istore_n 3, 1) := by decide +kernel
theorem dX12_averagePurse_11 : decode cX12_averagePurse 11 = .ok (.iload_n 3, 1) := by decide +kernel
theorem dX12_averagePurse_12 : decode cX12_averagePurse 12 = .ok (.aload_n 0, 1) := by decide +kernel
theorem dX12_averagePurse_13 : decode cX12_averagePurse 13 = .ok (.getfield 7, 3) := by decide +kernel
theorem dX12_averagePurse_16 : decode cX12_averagePurse 16 = .ok (.bipush 8, 2) := by decide +kernel
theorem dX12_averagePurse_18 : decode cX12_averagePurse 18 = .ok (.iaload, 1) := by decide +kernel
theorem dX12_averagePurse_19 : decode cX12_averagePurse 19 = .ok (.if_icmp .ge 34, 3) := by decide +kernel
theorem dX12_averagePurse_22 : decode cX12_averagePurse 22 = .ok (.iload_n 1, 1) := by decide +kernel
theorem dX12_averagePurse_23 : decode cX12_averagePurse 23 = .ok (.aload_n 0, 1) := by decide +kernel
theorem dX12_averagePurse_24 : decode cX12_averagePurse 24 = .ok (.iload_n 3, 1) := by decide +kernel
theorem dX12_averagePurse_25 : decode cX12_averagePurse 25 = .ok (.iconst 4, 1) := by decide +kernel
theorem dX12_averagePurse_26 : decode cX12_averagePurse 26 = .ok (.invokevirtual 76, 3) := by decide +kernel
theorem dX12_averagePurse_29 : decode cX12_averagePurse 29 = .ok (.iadd, 1) := by decide +kernel
theorem dX12_averagePurse_30 : decode cX12_averagePurse 30 = .ok (.istore_n 1, 1) := by decide +kernel
theorem dX12_averagePurse_31 : decode cX12_averagePurse 31 = .ok (.iload_n 2, 1) := by decide +kernel
theorem dX12_averagePurse_32 : decode cX12_averagePurse 32 = .ok (.aload_n 0, 1) := by decide +kernel
theorem dX12_averagePurse_33 : decode cX12_averagePurse 33 = .ok (.iload_n 3, 1) := by decide +kernel
theorem dX12_averagePurse_34 : decode cX12_averagePurse 34 = .ok (.iconst 4, 1) := by decide +kernel
theorem dX12_averagePurse_35 : decode cX12_averagePurse 35 = .ok (.invokevirtual 76, 3) := by decide +kernel
theorem dX12_averagePurse_38 : decode cX12_averagePurse 38 = .ok (.aload_n 0, 1) := by decide +kernel
theorem dX12_averagePurse_39 : decode cX12_averagePurse 39 = .ok (.iload_n 3, 1) := by decide +kernel
theorem dX12_averagePurse_40 : decode cX12_averagePurse 40 = .ok (.iconst 2, 1) := by decide +kernel
theorem dX12_averagePurse_41 : decode cX12_averagePurse 41 = .ok (.invokevirtual 76, 3) := by decide +kernel
theorem dX12_averagePurse_44 : decode cX12_averagePurse 44 = .ok (.imul, 1) := by decide +kernel
theorem dX12_averagePurse_45 : decode cX12_averagePurse 45 = .ok (.iadd, 1) := by decide +kernel
theorem dX12_averagePurse_46 : decode cX12_averagePurse 46 = .ok (.istore_n 2, 1) := by decide +kernel
theorem dX12_averagePurse_47 : decode cX12_averagePurse 47 = .ok (.iinc 3 1, 3) := by decide +kernel
theorem dX12_averagePurse_50 : decode cX12_averagePurse 50 = .ok (.goto (-39), 3) := by decide +kernel
theorem dX12_averagePurse_53 : decode cX12_averagePurse 53 = .ok (.iload_n 1, 1) := by decide +kernel
theorem dX12_averagePurse_54 : decode cX12_averagePurse 54 = .ok (.ifCond .ne 7, 3) := by decide +kernel
theorem dX12_averagePurse_57 : decode cX12_averagePurse 57 = .ok (.dconst 0, 1) := by decide +kernel
theorem dX12_averagePurse_58 : decode cX12_averagePurse 58 = .ok (.goto 8, 3) := by decide +kernel
theorem dX12_averagePurse_61 : decode cX12_averagePurse 61 = .ok (.iload_n 2, 1) := by decide +kernel
theorem dX12_averagePurse_62 : decode cX12_averagePurse 62 = .ok (.i2d, 1) := by decide +kernel
theorem dX12_averagePurse_63 : decode cX12_averagePurse 63 = .ok (.iload_n 1, 1) := by decide +kernel
theorem dX12_averagePurse_64 : decode cX12_averagePurse 64 = .ok (.i2d, 1) := by decide +kernel
theorem dX12_averagePurse_65 : decode cX12_averagePurse 65 = .ok (.ddiv, 1) := by decide +kernel
theorem dX12_averagePurse_66 : decode cX12_averagePurse 66 = .ok (.dreturn, 1) := by decide +kernel
theorem dX12_occupancy_0 : decode cX12_occupancy 0 = .ok (.aload_n 0, 1) := by decide +kernel
theorem dX12_occupancy_1 : decode cX12_occupancy 1 = .ok (.iconst 0, 1) := by decide +kernel
theorem dX12_occupancy_2 : decode cX12_occupancy 2 = .ok (.putfield 63, 3) := by decide +kernel
theorem dX12_occupancy_5 : decode cX12_occupancy 5 = .ok (.iconst 0, 1) := by decide +kernel
theorem dX12_occupancy_6 : decode cX12_occupancy 6 = .ok (.istore_n 1, 1) := by decide +kernel
theorem dX12_occupancy_7 : decode cX12_occupancy 7 = .ok (.iconst 0, 1) := by decide +kernel
theorem dX12_occupancy_8 : decode cX12_occupancy 8 = .ok (.istore_n 2, 1) := by decide +kernel
theorem dX12_occupancy_9 : decode cX12_occupancy 9 = .ok (.iconst 0, 1) := by decide +kernel
theorem dX12_occupancy_10 : decode cX12_occupancy 10 = .ok (.istore_n 3, 1) := by decide +kernel
theorem dX12_occupancy_11 : decode cX12_occupancy 11 = .ok (.iload_n 3, 1) := by decide +kernel
theorem dX12_occupancy_12 : decode cX12_occupancy 12 = .ok (.aload_n 0, 1) := by decide +kernel
theorem dX12_occupancy_13 : decode cX12_occupancy 13 = .ok (.getfield 7, 3) := by decide +kernel
theorem dX12_occupancy_16 : decode cX12_occupancy 16 = .ok (.bipush 7, 2) := by decide +kernel
theorem dX12_occupancy_18 : decode cX12_occupancy 18 = .ok (.iaload, 1) := by decide +kernel
theorem dX12_occupancy_19 : decode cX12_occupancy 19 = .ok (.if_icmp .ge 20, 3) := by decide +kernel
theorem dX12_occupancy_22 : decode cX12_occupancy 22 = .ok (.iload_n 1, 1) := by decide +kernel
theorem dX12_occupancy_23 : decode cX12_occupancy 23 = .ok (.iconst 2, 1) := by decide +kernel
theorem dX12_occupancy_24 : decode cX12_occupancy 24 = .ok (.aload_n 0, 1) := by decide +kernel
theorem dX12_occupancy_25 : decode cX12_occupancy 25 = .ok (.iload_n 3, 1) := by decide +kernel
theorem dX12_occupancy_26 : decode cX12_occupancy 26 = .ok (.iconst 0, 1) := by decide +kernel
theorem dX12_occupancy_27 : decode cX12_occupancy 27 = .ok (.invokevirtual 83, 3) := by decide +kernel
theorem dX12_occupancy_30 : decode cX12_occupancy 30 = .ok (.imul, 1) := by decide +kernel
theorem dX12_occupancy_31 : decode cX12_occupancy 31 = .ok (.iadd, 1) := by decide +kernel
theorem dX12_occupancy_32 : decode cX12_occupancy 32 = .ok (.istore_n 1, 1) := by decide +kernel
theorem dX12_occupancy_33 : decode cX12_occupancy 33 = .ok (.iinc 3 1, 3) := by decide +kernel
theorem dX12_occupancy_36 : decode cX12_occupancy 36 = .ok (.goto (-25), 3) := by decide +kernel
theorem dX12_occupancy_39 : decode cX12_occupancy 39 = .ok (.iconst 0, 1) := by decide +kernel
theorem dX12_occupancy_40 : decode cX12_occupancy 40 = .ok (.istore_n 3, 1) := by decide +kernel
theorem dX12_occupancy_41 : decode cX12_occupancy 41 = .ok (.iload_n 3, 1) := by decide +kernel
theorem dX12_occupancy_42 : decode cX12_occupancy 42 = .ok (.aload_n 0, 1) := by decide +kernel
theorem dX12_occupancy_43 : decode cX12_occupancy 43 = .ok (.getfield 7, 3) := by decide +kernel
theorem dX12_occupancy_46 : decode cX12_occupancy 46 = .ok (.bipush 8, 2) := by decide +kernel
theorem dX12_occupancy_48 : decode cX12_occupancy 48 = .ok (.iaload, 1) := by decide +kernel
theorem dX12_occupancy_49 : decode cX12_occupancy 49 = .ok (.if_icmp .ge 20, 3) := by decide +kernel
theorem dX12_occupancy_52 : decode cX12_occupancy 52 = .ok (.iload_n 2, 1) := by decide +kernel
theorem dX12_occupancy_53 : decode cX12_occupancy 53 = .ok (.aload_n 0, 1) := by decide +kernel
theorem dX12_occupancy_54 : decode cX12_occupancy 54 = .ok (.iload_n 3, 1) := by decide +kernel
theorem dX12_occupancy_55 : decode cX12_occupancy 55 = .ok (.invokevirtual 79, 3) := by decide +kernel
theorem dX12_occupancy_58 : decode cX12_occupancy 58 = .ok (.invokestatic 324, 3) := by decide +kernel
theorem dX12_occupancy_61 : decode cX12_occupancy 61 = .ok (.iadd, 1) := by decide +kernel
theorem dX12_occupancy_62 : decode cX12_occupancy 62 = .ok (.istore_n 2, 1) := by decide +kernel
theorem dX12_occupancy_63 : decode cX12_occupancy 63 = .ok (.iinc 3 1, 3) := by decide +kernel
theorem dX12_occupancy_66 : decode cX12_occupancy 66 = .ok (.goto (-25), 3) := by decide +kernel
theorem dX12_occupancy_69 : decode cX12_occupancy 69 = .ok (.iload_n 1, 1) := by decide +kernel
theorem dX12_occupancy_70 : decode cX12_occupancy 70 = .ok (.ifCond .ne 7, 3) := by decide +kernel
theorem dX12_occupancy_73 : decode cX12_occupancy 73 = .ok (.fconst 0, 1) := by decide +kernel
theorem dX12_occupancy_74 : decode cX12_occupancy 74 = .ok (.goto 8, 3) := by decide +kernel
theorem dX12_occupancy_77 : decode cX12_occupancy 77 = .ok (.iload_n 2, 1) := by decide +kernel
theorem dX12_occupancy_78 : decode cX12_occupancy 78 = .ok (.i2f, 1) := by decide +kernel
theorem dX12_occupancy_79 : decode cX12_occupancy 79 = .ok (.iload_n 1, 1) := by decide +kernel
theorem dX12_occupancy_80 : decode cX12_occupancy 80 = .ok (.i2f, 1) := by decide +kernel
theorem dX12_occupancy_81 : decode cX12_occupancy 81 = .ok (.fdiv, 1) := by decide +kernel
theorem dX12_occupancy_82 : decode cX12_occupancy 82 = .ok (.freturn, 1) := by decide +kernel
theorem dX12_weightOn_0 : decode cX12_weightOn 0 = .ok (.aload_n 0, 1) := by decide +kernel
theorem dX12_weightOn_1 : decode cX12_weightOn 1 = .ok (.iload_n 1, 1) := by decide +kernel
theorem dX12_weightOn_2 : decode cX12_weightOn 2 = .ok (.iload_n 2, 1) := by decide +kernel
theorem dX12_weightOn_3 : decode cX12_weightOn 3 = .ok (.invokevirtual 90, 3) := by decide +kernel
theorem dX12_weightOn_6 : decode cX12_weightOn 6 = .ok (.iconst (-1), 1) := by decide +kernel
theorem dX12_weightOn_7 : decode cX12_weightOn 7 = .ok (.if_icmp .ne 7, 3) := by decide +kernel
theorem dX12_weightOn_10 : decode cX12_weightOn 10 = .ok (.iconst 0, 1) := by decide +kernel
theorem dX12_weightOn_11 : decode cX12_weightOn 11 = .ok (.goto 14, 3) := by decide +kernel
theorem dX12_weightOn_14 : decode cX12_weightOn 14 = .ok (.aload_n 0, 1) := by decide +kernel
theorem dX12_weightOn_15 : decode cX12_weightOn 15 = .ok (.aload_n 0, 1) := by decide +kernel
theorem dX12_weightOn_16 : decode cX12_weightOn 16 = .ok (.iload_n 1, 1) := by decide +kernel
theorem dX12_weightOn_17 : decode cX12_weightOn 17 = .ok (.iload_n 2, 1) := by decide +kernel
theorem dX12_weightOn_18 : decode cX12_weightOn 18 = .ok (.invokevirtual 90, 3) := by decide +kernel
theorem dX12_weightOn_21 : decode cX12_weightOn 21 = .ok (.iconst 1, 1) := by decide +kernel
theorem dX12_weightOn_22 : decode cX12_weightOn 22 = .ok (.invokevirtual 76, 3) := by decide +kernel
theorem dX12_weightOn_25 : decode cX12_weightOn 25 = .ok (.ireturn, 1) := by decide +kernel
theorem dX12_torqueByDistances_0 : decode cX12_torqueByDistances 0 = .ok (.iconst 0, 1) := by decide +kernel
theorem dX12_torqueByDistances_1 : decode cX12_torqueByDistances 1 = .ok (.istore_n 2, 1) := by decide +kernel
theorem dX12_torqueByDistances_2 : decode cX12_torqueByDistances 2 = .ok (.iconst 1, 1) := by decide +kernel
theorem dX12_torqueByDistances_3 : decode cX12_torqueByDistances 3 = .ok (.istore_n 3, 1) := by decide +kernel
theorem dX12_torqueByDistances_4 : decode cX12_torqueByDistances 4 = .ok (.iload_n 3, 1) := by decide +kernel
theorem dX12_torqueByDistances_5 : decode cX12_torqueByDistances 5 = .ok (.aload_n 0, 1) := by decide +kernel
theorem dX12_torqueByDistances_6 : decode cX12_torqueByDistances 6 = .ok (.iload_n 1, 1) := by decide +kernel
theorem dX12_torqueByDistances_7 : decode cX12_torqueByDistances 7 = .ok (.iconst 0, 1) := by decide +kernel
theorem dX12_torqueByDistances_8 : decode cX12_torqueByDistances 8 = .ok (.invokevirtual 83, 3) := by decide +kernel
theorem dX12_torqueByDistances_11 : decode cX12_torqueByDistances 11 = .ok (.if_icmp .gt 48, 3) := by decide +kernel
theorem dX12_torqueByDistances_14 : decode cX12_torqueByDistances 14 = .ok (.iload_n 3, 1) := by decide +kernel
theorem dX12_torqueByDistances_15 : decode cX12_torqueByDistances 15 = .ok (.istore 4, 2) := by decide +kernel
theorem dX12_torqueByDistances_17 : decode cX12_torqueByDistances 17 = .ok (.iload 4, 2) := by decide +kernel
theorem dX12_torqueByDistances_19 : decode cX12_torqueByDistances 19 = .ok (.aload_n 0, 1) := by decide +kernel
theorem dX12_torqueByDistances_20 : decode cX12_torqueByDistances 20 = .ok (.iload_n 1, 1) := by decide +kernel
theorem dX12_torqueByDistances_21 : decode cX12_torqueByDistances 21 = .ok (.iconst 0, 1) := by decide +kernel
theorem dX12_torqueByDistances_22 : decode cX12_torqueByDistances 22 = .ok (.invokevirtual 83, 3) := by decide +kernel
theorem dX12_torqueByDistances_25 : decode cX12_torqueByDistances 25 = .ok (.if_icmp .gt 28, 3) := by decide +kernel
theorem dX12_torqueByDistances_28 : decode cX12_torqueByDistances 28 = .ok (.iload_n 2, 1) := by decide +kernel
theorem dX12_torqueByDistances_29 : decode cX12_torqueByDistances 29 = .ok (.aload_n 0, 1) := by decide +kernel
theorem dX12_torqueByDistances_30 : decode cX12_torqueByDistances 30 = .ok (.iload_n 1, 1) := by decide +kernel
theorem dX12_torqueByDistances_31 : decode cX12_torqueByDistances 31 = .ok (.iload 4, 2) := by decide +kernel
theorem dX12_torqueByDistances_33 : decode cX12_torqueByDistances 33 = .ok (.invokevirtual 467, 3) := by decide +kernel
theorem dX12_torqueByDistances_36 : decode cX12_torqueByDistances 36 = .ok (.aload_n 0, 1) := by decide +kernel
theorem dX12_torqueByDistances_37 : decode cX12_torqueByDistances 37 = .ok (.iload_n 1, 1) := by decide +kernel
theorem dX12_torqueByDistances_38 : decode cX12_torqueByDistances 38 = .ok (.iload 4, 2) := by decide +kernel
theorem dX12_torqueByDistances_40 : decode cX12_torqueByDistances 40 = .ok (.ineg, 1) := by decide +kernel
theorem dX12_torqueByDistances_41 : decode cX12_torqueByDistances 41 = .ok (.invokevirtual 467, 3) := by decide +kernel
theorem dX12_torqueByDistances_44 : decode cX12_torqueByDistances 44 = .ok (.isub, 1) := by decide +kernel
theorem dX12_torqueByDistances_45 : decode cX12_torqueByDistances 45 = .ok (.iadd, 1) := by decide +kernel
theorem dX12_torqueByDistances_46 : decode cX12_torqueByDistances 46 = .ok (.istore_n 2, 1) := by decide +kernel
theorem dX12_torqueByDistances_47 : decode cX12_torqueByDistances 47 = .ok (.iinc 4 1, 3) := by decide +kernel
theorem dX12_torqueByDistances_50 : decode cX12_torqueByDistances 50 = .ok (.goto (-33), 3) := by decide +kernel
theorem dX12_torqueByDistances_53 : decode cX12_torqueByDistances 53 = .ok (.iinc 3 1, 3) := by decide +kernel
theorem dX12_torqueByDistances_56 : decode cX12_torqueByDistances 56 = .ok (.goto (-52), 3) := by decide +kernel
theorem dX12_torqueByDistances_59 : decode cX12_torqueByDistances 59 = .ok (.iload_n 2, 1) := by decide +kernel
theorem dX12_torqueByDistances_60 : decode cX12_torqueByDistances 60 = .ok (.ireturn, 1) := by decide +kernel
theorem dX12_wrongSeats_0 : decode cX12_wrongSeats 0 = .ok (.iconst 0, 1) := by decide +kernel
theorem dX12_wrongSeats_1 : decode cX12_wrongSeats 1 = .ok (.istore_n 2, 1) := by decide +kernel
theorem dX12_wrongSeats_2 : decode cX12_wrongSeats 2 = .ok (.aload_n 0, 1) := by decide +kernel
theorem dX12_wrongSeats_3 : decode cX12_wrongSeats 3 = .ok (.iload_n 1, 1) := by decide +kernel
theorem dX12_wrongSeats_4 : decode cX12_wrongSeats 4 = .ok (.iconst 0, 1) := by decide +kernel
theorem dX12_wrongSeats_5 : decode cX12_wrongSeats 5 = .ok (.invokevirtual 83, 3) := by decide +kernel
theorem dX12_wrongSeats_8 : decode cX12_wrongSeats 8 = .ok (.ineg, 1) := by decide +kernel
theorem dX12_wrongSeats_9 : decode cX12_wrongSeats 9 = .ok (.istore_n 3, 1) := by decide +kernel
theorem dX12_wrongSeats_10 : decode cX12_wrongSeats 10 = .ok (.iload_n 3, 1) := by decide +kernel
theorem dX12_wrongSeats_11 : decode cX12_wrongSeats 11 = .ok (.aload_n 0, 1) := by decide +kernel
theorem dX12_wrongSeats_12 : decode cX12_wrongSeats 12 = .ok (.iload_n 1, 1) := by decide +kernel
theorem dX12_wrongSeats_13 : decode cX12_wrongSeats 13 = .ok (.iconst 0, 1) := by decide +kernel
theorem dX12_wrongSeats_14 : decode cX12_wrongSeats 14 = .ok (.invokevirtual 83, 3) := by decide +kernel
theorem dX12_wrongSeats_17 : decode cX12_wrongSeats 17 = .ok (.if_icmp .gt 65, 3) := by decide +kernel
theorem dX12_wrongSeats_20 : decode cX12_wrongSeats 20 = .ok (.iload_n 3, 1) := by decide +kernel
theorem dX12_wrongSeats_21 : decode cX12_wrongSeats 21 = .ok (.ifCond .eq 55, 3) := by decide +kernel
theorem dX12_wrongSeats_24 : decode cX12_wrongSeats 24 = .ok (.aload_n 0, 1) := by decide +kernel
theorem dX12_wrongSeats_25 : decode cX12_wrongSeats 25 = .ok (.iload_n 1, 1) := by decide +kernel
theorem dX12_wrongSeats_26 : decode cX12_wrongSeats 26 = .ok (.iload_n 3, 1) := by decide +kernel
theorem dX12_wrongSeats_27 : decode cX12_wrongSeats 27 = .ok (.invokevirtual 90, 3) := by decide +kernel
theorem dX12_wrongSeats_30 : decode cX12_wrongSeats 30 = .ok (.iconst (-1), 1) := by decide +kernel
theorem dX12_wrongSeats_31 : decode cX12_wrongSeats 31 = .ok (.if_icmp .eq 45, 3) := by decide +kernel
theorem dX12_wrongSeats_34 : decode cX12_wrongSeats 34 = .ok (.iload_n 2, 1) := by decide +kernel
theorem dX12_wrongSeats_35 : decode cX12_wrongSeats 35 = .ok (.aload_n 0, 1) := by decide +kernel
theorem dX12_wrongSeats_36 : decode cX12_wrongSeats 36 = .ok (.aload_n 0, 1) := by decide +kernel
theorem dX12_wrongSeats_37 : decode cX12_wrongSeats 37 = .ok (.iload_n 1, 1) := by decide +kernel
theorem dX12_wrongSeats_38 : decode cX12_wrongSeats 38 = .ok (.iload_n 3, 1) := by decide +kernel
theorem dX12_wrongSeats_39 : decode cX12_wrongSeats 39 = .ok (.invokevirtual 90, 3) := by decide +kernel
theorem dX12_wrongSeats_42 : decode cX12_wrongSeats 42 = .ok (.iconst 5, 1) := by decide +kernel
theorem dX12_wrongSeats_43 : decode cX12_wrongSeats 43 = .ok (.invokevirtual 76, 3) := by decide +kernel
theorem dX12_wrongSeats_46 : decode cX12_wrongSeats 46 = .ok (.iload_n 1, 1) := by decide +kernel
theorem dX12_wrongSeats_47 : decode cX12_wrongSeats 47 = .ok (.if_icmp .ne 19, 3) := by decide +kernel
theorem dX12_wrongSeats_50 : decode cX12_wrongSeats 50 = .ok (.aload_n 0, 1) := by decide +kernel
theorem dX12_wrongSeats_51 : decode cX12_wrongSeats 51 = .ok (.aload_n 0, 1) := by decide +kernel
theorem dX12_wrongSeats_52 : decode cX12_wrongSeats 52 = .ok (.iload_n 1, 1) := by decide +kernel
theorem dX12_wrongSeats_53 : decode cX12_wrongSeats 53 = .ok (.iload_n 3, 1) := by decide +kernel
theorem dX12_wrongSeats_54 : decode cX12_wrongSeats 54 = .ok (.invokevirtual 90, 3) := by decide +kernel
theorem dX12_wrongSeats_57 : decode cX12_wrongSeats 57 = .ok (.bipush 6, 2) := by decide +kernel
theorem dX12_wrongSeats_59 : decode cX12_wrongSeats 59 = .ok (.invokevirtual 76, 3) := by decide +kernel
theorem dX12_wrongSeats_62 : decode cX12_wrongSeats 62 = .ok (.iload_n 3, 1) := by decide +kernel
theorem dX12_wrongSeats_63 : decode cX12_wrongSeats 63 = .ok (.if_icmp .eq 7, 3) := by decide +kernel
theorem dX12_wrongSeats_66 : decode cX12_wrongSeats 66 = .ok (.iconst 1, 1) := by decide +kernel
theorem dX12_wrongSeats_67 : decode cX12_wrongSeats 67 = .ok (.goto 4, 3) := by decide +kernel
theorem dX12_wrongSeats_70 : decode cX12_wrongSeats 70 = .ok (.iconst 0, 1) := by decide +kernel
theorem dX12_wrongSeats_71 : decode cX12_wrongSeats 71 = .ok (.invokestatic 324, 3) := by decide +kernel
theorem dX12_wrongSeats_74 : decode cX12_wrongSeats 74 = .ok (.iadd, 1) := by decide +kernel
theorem dX12_wrongSeats_75 : decode cX12_wrongSeats 75 = .ok (.istore_n 2, 1) := by decide +kernel
theorem dX12_wrongSeats_76 : decode cX12_wrongSeats 76 = .ok (.iinc 3 1, 3) := by decide +kernel
theorem dX12_wrongSeats_79 : decode cX12_wrongSeats 79 = .ok (.goto (-69), 3) := by decide +kernel
theorem dX12_wrongSeats_82 : decode cX12_wrongSeats 82 = .ok (.iload_n 2, 1) := by decide +kernel
theorem dX12_wrongSeats_83 : decode cX12_wrongSeats 83 = .ok (.ireturn, 1) := by decide +kernel
theorem dX12_contradictions_0 : decode cX12_contradictions 0 = .ok (.aload_n 0, 1) := by decide +kernel
theorem dX12_contradictions_1 : decode cX12_contradictions 1 = .ok (.iconst 0, 1) := by decide +kernel
theorem dX12_contradictions_2 : decode cX12_contradictions 2 = .ok (.putfield 63, 3) := by decide +kernel
theorem dX12_contradictions_5 : decode cX12_contradictions 5 = .ok (.aload_n 0, 1) := by decide +kernel
theorem dX12_contradictions_6 : decode cX12_contradictions 6 = .ok (.getfield 7, 3) := by decide +kernel
theorem dX12_contradictions_9 : decode cX12_contradictions 9 = .ok (.bipush 9, 2) := by decide +kernel
theorem dX12_contradictions_11 : decode cX12_contradictions 11 = .ok (.iaload, 1) := by decide +kernel
theorem dX12_contradictions_12 : decode cX12_contradictions 12 = .ok (.aload_n 0, 1) := by decide +kernel
theorem dX12_contradictions_13 : decode cX12_contradictions 13 = .ok (.invokevirtual 59, 3) := by decide +kernel
theorem dX12_contradictions_16 : decode cX12_contradictions 16 = .ok (.isub, 1) := by decide +kernel
theorem dX12_contradictions_17 : decode cX12_contradictions 17 = .ok (.invokestatic 109, 3) := by decide +kernel
theorem dX12_contradictions_20 : decode cX12_contradictions 20 = .ok (.istore_n 1, 1) := by decide +kernel
theorem dX12_contradictions_21 : decode cX12_contradictions 21 = .ok (.iconst 0, 1) := by decide +kernel
theorem dX12_contradictions_22 : decode cX12_contradictions 22 = .ok (.istore_n 2, 1) := by decide +kernel
theorem dX12_contradictions_23 : decode cX12_contradictions 23 = .ok (.iload_n 2, 1) := by decide +kernel
theorem dX12_contradictions_24 : decode cX12_contradictions 24 = .ok (.aload_n 0, 1) := by decide +kernel
theorem dX12_contradictions_25 : decode cX12_contradictions 25 = .ok (.getfield 7, 3) := by decide +kernel
theorem dX12_contradictions_28 : decode cX12_contradictions 28 = .ok (.bipush 7, 2) := by decide +kernel
theorem dX12_contradictions_30 : decode cX12_contradictions 30 = .ok (.iaload, 1) := by decide +kernel
theorem dX12_contradictions_31 : decode cX12_contradictions 31 = .ok (.if_icmp .ge 32, 3) := by decide +kernel
theorem dX12_contradictions_34 : decode cX12_contradictions 34 = .ok (.iload_n 1, 1) := by decide +kernel
theorem dX12_contradictions_35 : decode cX12_contradictions 35 = .ok (.aload_n 0, 1) := by decide +kernel
theorem dX12_contradictions_36 : decode cX12_contradictions 36 = .ok (.iload_n 2, 1) := by decide +kernel
theorem dX12_contradictions_37 : decode cX12_contradictions 37 = .ok (.invokevirtual 99, 3) := by decide +kernel
theorem dX12_contradictions_40 : decode cX12_contradictions 40 = .ok (.aload_n 0, 1) := by decide +kernel
theorem dX12_contradictions_41 : decode cX12_contradictions 41 = .ok (.iload_n 2, 1) := by decide +kernel
theorem dX12_contradictions_42 : decode cX12_contradictions 42 = .ok (.invokevirtual 470, 3) := by decide +kernel
theorem dX12_contradictions_45 : decode cX12_contradictions 45 = .ok (.isub, 1) := by decide +kernel
theorem dX12_contradictions_46 : decode cX12_contradictions 46 = .ok (.invokestatic 109, 3) := by decide +kernel
theorem dX12_contradictions_49 : decode cX12_contradictions 49 = .ok (.aload_n 0, 1) := by decide +kernel
theorem dX12_contradictions_50 : decode cX12_contradictions 50 = .ok (.iload_n 2, 1) := by decide +kernel
theorem dX12_contradictions_51 : decode cX12_contradictions 51 = .ok (.invokevirtual 473, 3) := by decide +kernel
theorem dX12_contradictions_54 : decode cX12_contradictions 54 = .ok (.iadd, 1) := by decide +kernel
theorem dX12_contradictions_55 : decode cX12_contradictions 55 = .ok (.iadd, 1) := by decide +kernel
theorem dX12_contradictions_56 : decode cX12_contradictions 56 = .ok (.istore_n 1, 1) := by decide +kernel
theorem dX12_contradictions_57 : decode cX12_contradictions 57 = .ok (.iinc 2 1, 3) := by decide +kernel
theorem dX12_contradictions_60 : decode cX12_contradictions 60 = .ok (.goto (-37), 3) := by decide +kernel
theorem dX12_contradictions_63 : decode cX12_contradictions 63 = .ok (.iload_n 1, 1) := by decide +kernel
theorem dX12_contradictions_64 : decode cX12_contradictions 64 = .ok (.ireturn, 1) := by decide +kernel
theorem dX12_ofEvent_0 : decode cX12_ofEvent 0 = .ok (.aload_n 0, 1) := by decide +kernel
theorem dX12_ofEvent_1 : decode cX12_ofEvent 1 = .ok (.iconst 0, 1) := by decide +kernel
theorem dX12_ofEvent_2 : decode cX12_ofEvent 2 = .ok (.putfield 63, 3) := by decide +kernel
theorem dX12_ofEvent_5 : decode cX12_ofEvent 5 = .ok (.iload_n 1, 1) := by decide +kernel
theorem dX12_ofEvent_6 : decode cX12_ofEvent 6 = .ok (.i2l, 1) := by decide +kernel
theorem dX12_ofEvent_7 : decode cX12_ofEvent 7 = .ok (.lconst 0, 1) := by decide +kernel
theorem dX12_ofEvent_8 : decode cX12_ofEvent 8 = .ok (.aload_n 0, 1) := by decide +kernel
theorem dX12_ofEvent_9 : decode cX12_ofEvent 9 = .ok (.getfield 7, 3) := by decide +kernel
theorem dX12_ofEvent_12 : decode cX12_ofEvent 12 = .ok (.bipush 13, 2) := by decide +kernel
theorem dX12_ofEvent_14 : decode cX12_ofEvent 14 = .ok (.iaload, 1) := by decide +kernel
theorem dX12_ofEvent_15 : decode cX12_ofEvent 15 = .ok (.iconst 1, 1) := by decide +kernel
theorem dX12_ofEvent_16 : decode cX12_ofEvent 16 = .ok (.isub, 1) := by decide +kernel
theorem dX12_ofEvent_17 : decode cX12_ofEvent 17 = .ok (.i2l, 1) := by decide +kernel
theorem dX12_ofEvent_18 : decode cX12_ofEvent 18 = .ok (.invokestatic 86, 3) := by decide +kernel
theorem dX12_ofEvent_21 : decode cX12_ofEvent 21 = .ok (.ifCond .eq 20, 3) := by decide +kernel
theorem dX12_ofEvent_24 : decode cX12_ofEvent 24 = .ok (.aload_n 0, 1) := by decide +kernel
theorem dX12_ofEvent_25 : decode cX12_ofEvent 25 = .ok (.getfield 7, 3) := by decide +kernel
theorem dX12_ofEvent_28 : decode cX12_ofEvent 28 = .ok (.sipush 257, 3) := by decide +kernel
theorem dX12_ofEvent_31 : decode cX12_ofEvent 31 = .ok (.iconst 3, 1) := by decide +kernel
theorem dX12_ofEvent_32 : decode cX12_ofEvent 32 = .ok (.iload_n 1, 1) := by decide +kernel
theorem dX12_ofEvent_33 : decode cX12_ofEvent 33 = .ok (.imul, 1) := by decide +kernel
theorem dX12_ofEvent_34 : decode cX12_ofEvent 34 = .ok (.iadd, 1) := by decide +kernel
theorem dX12_ofEvent_35 : decode cX12_ofEvent 35 = .ok (.iload_n 2, 1) := by decide +kernel
theorem dX12_ofEvent_36 : decode cX12_ofEvent 36 = .ok (.iadd, 1) := by decide +kernel
theorem dX12_ofEvent_37 : decode cX12_ofEvent 37 = .ok (.iaload, 1) := by decide +kernel
theorem dX12_ofEvent_38 : decode cX12_ofEvent 38 = .ok (.goto 4, 3) := by decide +kernel
theorem dX12_ofEvent_41 : decode cX12_ofEvent 41 = .ok (.iconst (-1), 1) := by decide +kernel
theorem dX12_ofEvent_42 : decode cX12_ofEvent 42 = .ok (.ireturn, 1) := by decide +kernel
theorem dX12_eventKind_0 : decode cX12_eventKind 0 = .ok (.aload_n 0, 1) := by decide +kernel
theorem dX12_eventKind_1 : decode cX12_eventKind 1 = .ok (.iload_n 1, 1) := by decide +kernel
theorem dX12_eventKind_2 : decode cX12_eventKind 2 = .ok (.iconst 0, 1) := by decide +kernel
theorem dX12_eventKind_3 : decode cX12_eventKind 3 = .ok (.invokevirtual 476, 3) := by decide +kernel
theorem dX12_eventKind_6 : decode cX12_eventKind 6 = .ok (.ireturn, 1) := by decide +kernel
theorem dX12_eventTrader_0 : decode cX12_eventTrader 0 = .ok (.aload_n 0, 1) := by decide +kernel
theorem dX12_eventTrader_1 : decode cX12_eventTrader 1 = .ok (.iload_n 1, 1) := by decide +kernel
theorem dX12_eventTrader_2 : decode cX12_eventTrader 2 = .ok (.iconst 1, 1) := by decide +kernel
theorem dX12_eventTrader_3 : decode cX12_eventTrader 3 = .ok (.invokevirtual 476, 3) := by decide +kernel
theorem dX12_eventTrader_6 : decode cX12_eventTrader 6 = .ok (.ireturn, 1) := by decide +kernel
theorem dX12_eventDay_0 : decode cX12_eventDay 0 = .ok (.aload_n 0, 1) := by decide +kernel
theorem dX12_eventDay_1 : decode cX12_eventDay 1 = .ok (.iload_n 1, 1) := by decide +kernel
theorem dX12_eventDay_2 : decode cX12_eventDay 2 = .ok (.iconst 2, 1) := by decide +kernel
theorem dX12_eventDay_3 : decode cX12_eventDay 3 = .ok (.invokevirtual 476, 3) := by decide +kernel
theorem dX12_eventDay_6 : decode cX12_eventDay 6 = .ok (.ireturn, 1) := by decide +kernel
theorem dX12_behind_0 : decode cX12_behind 0 = .ok (.aload_n 0, 1) := by decide +kernel
theorem dX12_behind_1 : decode cX12_behind 1 = .ok (.getfield 7, 3) := by decide +kernel
theorem dX12_behind_4 : decode cX12_behind 4 = .ok (.iconst 0, 1) := by decide +kernel
theorem dX12_behind_5 : decode cX12_behind 5 = .ok (.aload_n 0, 1) := by decide +kernel
theorem dX12_behind_6 : decode cX12_behind 6 = .ok (.getfield 13, 3) := by decide +kernel
theorem dX12_behind_9 : decode cX12_behind 9 = .ok (.iconst 0, 1) := by decide +kernel
theorem dX12_behind_10 : decode cX12_behind 10 = .ok (.invokestatic 282, 3) := by decide +kernel
theorem dX12_behind_13 : decode cX12_behind 13 = .ok (.aload_n 0, 1) := by decide +kernel
theorem dX12_behind_14 : decode cX12_behind 14 = .ok (.iload_n 2, 1) := by decide +kernel
theorem dX12_behind_15 : decode cX12_behind 15 = .ok (.invokevirtual 371, 3) := by decide +kernel
theorem dX12_behind_18 : decode cX12_behind 18 = .ok (.istore_n 3, 1) := by decide +kernel
theorem dX12_behind_19 : decode cX12_behind 19 = .ok (.aload_n 0, 1) := by decide +kernel
theorem dX12_behind_20 : decode cX12_behind 20 = .ok (.getfield 7, 3) := by decide +kernel
theorem dX12_behind_23 : decode cX12_behind 23 = .ok (.iload_n 1, 1) := by decide +kernel
theorem dX12_behind_24 : decode cX12_behind 24 = .ok (.iaload, 1) := by decide +kernel
theorem dX12_behind_25 : decode cX12_behind 25 = .ok (.istore 4, 2) := by decide +kernel
theorem dX12_behind_27 : decode cX12_behind 27 = .ok (.aload_n 0, 1) := by decide +kernel
theorem dX12_behind_28 : decode cX12_behind 28 = .ok (.getfield 13, 3) := by decide +kernel
theorem dX12_behind_31 : decode cX12_behind 31 = .ok (.iconst 0, 1) := by decide +kernel
theorem dX12_behind_32 : decode cX12_behind 32 = .ok (.aload_n 0, 1) := by decide +kernel
theorem dX12_behind_33 : decode cX12_behind 33 = .ok (.getfield 7, 3) := by decide +kernel
theorem dX12_behind_36 : decode cX12_behind 36 = .ok (.iconst 0, 1) := by decide +kernel
theorem dX12_behind_37 : decode cX12_behind 37 = .ok (.invokestatic 282, 3) := by decide +kernel
theorem dX12_behind_40 : decode cX12_behind 40 = .ok (.iload 4, 2) := by decide +kernel
theorem dX12_behind_42 : decode cX12_behind 42 = .ok (.ireturn, 1) := by decide +kernel
theorem dX12_purseAfter_0 : decode cX12_purseAfter 0 = .ok (.aload_n 0, 1) := by decide +kernel
theorem dX12_purseAfter_1 : decode cX12_purseAfter 1 = .ok (.iconst 0, 1) := by decide +kernel
theorem dX12_purseAfter_2 : decode cX12_purseAfter 2 = .ok (.putfield 63, 3) := by decide +kernel
theorem dX12_purseAfter_5 : decode cX12_purseAfter 5 = .ok (.aload_n 0, 1) := by decide +kernel
theorem dX12_purseAfter_6 : decode cX12_purseAfter 6 = .ok (.iload_n 1, 1) := by decide +kernel
theorem dX12_purseAfter_7 : decode cX12_purseAfter 7 = .ok (.invokevirtual 427, 3) := by decide +kernel
theorem dX12_purseAfter_10 : decode cX12_purseAfter 10 = .ok (.ifCond .ne 28, 3) := by decide +kernel
theorem dX12_purseAfter_13 : decode cX12_purseAfter 13 = .ok (.aload_n 0, 1) := by decide +kernel
theorem dX12_purseAfter_14 : decode cX12_purseAfter 14 = .ok (.iload_n 2, 1) := by decide +kernel
theorem dX12_purseAfter_15 : decode cX12_purseAfter 15 = .ok (.i2l, 1) := by decide +kernel
theorem dX12_purseAfter_16 : decode cX12_purseAfter 16 = .ok (.lconst 0, 1) := by decide +kernel
theorem dX12_purseAfter_17 : decode cX12_purseAfter 17 = .ok (.ldc2_w 479, 3) := by decide +kernel
theorem dX12_purseAfter_20 : decode cX12_purseAfter 20 = .ok (.invokestatic 86, 3) := by decide +kernel
theorem dX12_purseAfter_23 : decode cX12_purseAfter 23 = .ok (.ifCond .ne 7, 3) := by decide +kernel
theorem dX12_purseAfter_26 : decode cX12_purseAfter 26 = .ok (.iconst 1, 1) := by decide +kernel
theorem dX12_purseAfter_27 : decode cX12_purseAfter 27 = .ok (.goto 4, 3) := by decide +kernel
theorem dX12_purseAfter_30 : decode cX12_purseAfter 30 = .ok (.iconst 0, 1) := by decide +kernel
theorem dX12_purseAfter_31 : decode cX12_purseAfter 31 = .ok (.iconst 2, 1) := by decide +kernel
theorem dX12_purseAfter_32 : decode cX12_purseAfter 32 = .ok (.invokevirtual 161, 3) := by decide +kernel
theorem dX12_purseAfter_35 : decode cX12_purseAfter 35 = .ok (.ifCond .eq 7, 3) := by decide +kernel
theorem dX12_purseAfter_38 : decode cX12_purseAfter 38 = .ok (.iconst 0, 1) := by decide +kernel
theorem dX12_purseAfter_39 : decode cX12_purseAfter 39 = .ok (.goto 13, 3) := by decide +kernel
theorem dX12_purseAfter_42 : decode cX12_purseAfter 42 = .ok (.aload_n 0, 1) := by decide +kernel
theorem dX12_purseAfter_43 : decode cX12_purseAfter 43 = .ok (.iload_n 1, 1) := by decide +kernel
theorem dX12_purseAfter_44 : decode cX12_purseAfter 44 = .ok (.iconst 2, 1) := by decide +kernel
theorem dX12_purseAfter_45 : decode cX12_purseAfter 45 = .ok (.invokestatic 70, 3) := by decide +kernel
theorem dX12_purseAfter_48 : decode cX12_purseAfter 48 = .ok (.iload_n 2, 1) := by decide +kernel
theorem dX12_purseAfter_49 : decode cX12_purseAfter 49 = .ok (.invokevirtual 481, 3) := by decide +kernel
theorem dX12_purseAfter_52 : decode cX12_purseAfter 52 = .ok (.ireturn, 1) := by decide +kernel
theorem dX12_bankAfter_0 : decode cX12_bankAfter 0 = .ok (.aload_n 0, 1) := by decide +kernel
theorem dX12_bankAfter_1 : decode cX12_bankAfter 1 = .ok (.iconst 0, 1) := by decide +kernel
theorem dX12_bankAfter_2 : decode cX12_bankAfter 2 = .ok (.putfield 63, 3) := by decide +kernel
theorem dX12_bankAfter_5 : decode cX12_bankAfter 5 = .ok (.aload_n 0, 1) := by decide +kernel
theorem dX12_bankAfter_6 : decode cX12_bankAfter 6 = .ok (.iload_n 1, 1) := by decide +kernel
theorem dX12_bankAfter_7 : decode cX12_bankAfter 7 = .ok (.i2l, 1) := by decide +kernel
theorem dX12_bankAfter_8 : decode cX12_bankAfter 8 = .ok (.lconst 0, 1) := by decide +kernel
theorem dX12_bankAfter_9 : decode cX12_bankAfter 9 = .ok (.ldc2_w 479, 3) := by decide +kernel
theorem dX12_bankAfter_12 : decode cX12_bankAfter 12 = .ok (.invokestatic 86, 3) := by decide +kernel
theorem dX12_bankAfter_15 : decode cX12_bankAfter 15 = .ok (.ifCond .ne 7, 3) := by decide +kernel
theorem dX12_bankAfter_18 : decode cX12_bankAfter 18 = .ok (.iconst 1, 1) := by decide +kernel
theorem dX12_bankAfter_19 : decode cX12_bankAfter 19 = .ok (.goto 4, 3) := by decide +kernel
theorem dX12_bankAfter_22 : decode cX12_bankAfter 22 = .ok (.iconst 0, 1) := by decide +kernel
theorem dX12_bankAfter_23 : decode cX12_bankAfter 23 = .ok (.iconst 1, 1) := by decide +kernel
theorem dX12_bankAfter_24 : decode cX12_bankAfter 24 = .ok (.invokevirtual 161, 3) := by decide +kernel
theorem dX12_bankAfter_27 : decode cX12_bankAfter 27 = .ok (.ifCond .eq 7, 3) := by decide +kernel
theorem dX12_bankAfter_30 : decode cX12_bankAfter 30 = .ok (.iconst 0, 1) := by decide +kernel
theorem dX12_bankAfter_31 : decode cX12_bankAfter 31 = .ok (.goto 9, 3) := by decide +kernel
theorem dX12_bankAfter_34 : decode cX12_bankAfter 34 = .ok (.aload_n 0, 1) := by decide +kernel
theorem dX12_bankAfter_35 : decode cX12_bankAfter 35 = .ok (.iconst 5, 1) := by decide +kernel
theorem dX12_bankAfter_36 : decode cX12_bankAfter 36 = .ok (.iload_n 1, 1) := by decide +kernel
theorem dX12_bankAfter_37 : decode cX12_bankAfter 37 = .ok (.invokevirtual 481, 3) := by decide +kernel
theorem dX12_bankAfter_40 : decode cX12_bankAfter 40 = .ok (.ireturn, 1) := by decide +kernel
theorem dX12_daysUntilFall_0 : decode cX12_daysUntilFall 0 = .ok (.aload_n 0, 1) := by decide +kernel
theorem dX12_daysUntilFall_1 : decode cX12_daysUntilFall 1 = .ok (.iconst 0, 1) := by decide +kernel
theorem dX12_daysUntilFall_2 : decode cX12_daysUntilFall 2 = .ok (.putfield 63, 3) := by decide +kernel
theorem dX12_daysUntilFall_5 : decode cX12_daysUntilFall 5 = .ok (.aload_n 0, 1) := by decide +kernel
theorem dX12_daysUntilFall_6 : decode cX12_daysUntilFall 6 = .ok (.iload_n 1, 1) := by decide +kernel
theorem dX12_daysUntilFall_7 : decode cX12_daysUntilFall 7 = .ok (.invokevirtual 427, 3) := by decide +kernel
theorem dX12_daysUntilFall_10 : decode cX12_daysUntilFall 10 = .ok (.ifCond .eq 5, 3) := by decide +kernel
theorem dX12_daysUntilFall_13 : decode cX12_daysUntilFall 13 = .ok (.iconst 0, 1) := by decide +kernel
theorem dX12_daysUntilFall_14 : decode cX12_daysUntilFall 14 = .ok (.ireturn, 1) := by decide +kernel
theorem dX12_daysUntilFall_15 : decode cX12_daysUntilFall 15 = .ok (.aload_n 0, 1) := by decide +kernel
theorem dX12_daysUntilFall_16 : decode cX12_daysUntilFall 16 = .ok (.getfield 7, 3) := by decide +kernel
theorem dX12_daysUntilFall_19 : decode cX12_daysUntilFall 19 = .ok (.iconst 0, 1) := by decide +kernel
theorem dX12_daysUntilFall_20 : decode cX12_daysUntilFall 20 = .ok (.aload_n 0, 1) := by decide +kernel
theorem dX12_daysUntilFall_21 : decode cX12_daysUntilFall 21 = .ok (.getfield 13, 3) := by decide +kernel
theorem dX12_daysUntilFall_24 : decode cX12_daysUntilFall 24 = .ok (.iconst 0, 1) := by decide +kernel
theorem dX12_daysUntilFall_25 : decode cX12_daysUntilFall 25 = .ok (.invokestatic 282, 3) := by decide +kernel
theorem dX12_daysUntilFall_28 : decode cX12_daysUntilFall 28 = .ok (.aload_n 0, 1) := by decide +kernel
theorem dX12_daysUntilFall_29 : decode cX12_daysUntilFall 29 = .ok (.getfield 26, 3) := by decide +kernel
theorem dX12_daysUntilFall_32 : decode cX12_daysUntilFall 32 = .ok (.iload_n 1, 1) := by decide +kernel
theorem dX12_daysUntilFall_33 : decode cX12_daysUntilFall 33 = .ok (.iconst 0, 1) := by decide +kernel
theorem dX12_daysUntilFall_34 : decode cX12_daysUntilFall 34 = .ok (.bastore, 1) := by decide +kernel
theorem dX12_daysUntilFall_35 : decode cX12_daysUntilFall 35 = .ok (.iconst 0, 1) := by decide +kernel
theorem dX12_daysUntilFall_36 : decode cX12_daysUntilFall 36 = .ok (.istore_n 2, 1) := by decide +kernel
theorem dX12_daysUntilFall_37 : decode cX12_daysUntilFall 37 = .ok (.iload_n 2, 1) := by decide +kernel
theorem dX12_daysUntilFall_38 : decode cX12_daysUntilFall 38 = .ok (.bipush 100, 2) := by decide +kernel
theorem dX12_daysUntilFall_40 : decode cX12_daysUntilFall 40 = .ok (.if_icmp .ge 22, 3) := by decide +kernel
theorem dX12_daysUntilFall_43 : decode cX12_daysUntilFall 43 = .ok (.aload_n 0, 1) := by decide +kernel
theorem dX12_daysUntilFall_44 : decode cX12_daysUntilFall 44 = .ok (.getfield 26, 3) := by decide +kernel
theorem dX12_daysUntilFall_47 : decode cX12_daysUntilFall 47 = .ok (.iload_n 1, 1) := by decide +kernel
theorem dX12_daysUntilFall_48 : decode cX12_daysUntilFall 48 = .ok (.baload, 1) := by decide +kernel
theorem dX12_daysUntilFall_49 : decode cX12_daysUntilFall 49 = .ok (.ifCond .ne 13, 3) := by decide +kernel
theorem dX12_daysUntilFall_52 : decode cX12_daysUntilFall 52 = .ok (.aload_n 0, 1) := by decide +kernel
theorem dX12_daysUntilFall_53 : decode cX12_daysUntilFall 53 = .ok (.invokevirtual 139, 3) := by decide +kernel
theorem dX12_daysUntilFall_56 : decode cX12_daysUntilFall 56 = .ok (.iinc 2 1, 3) := by decide +kernel
theorem dX12_daysUntilFall_59 : decode cX12_daysUntilFall 59 = .ok (.goto (-22), 3) := by decide +kernel
theorem dX12_daysUntilFall_62 : decode cX12_daysUntilFall 62 = .ok (.aload_n 0, 1) := by decide +kernel
theorem dX12_daysUntilFall_63 : decode cX12_daysUntilFall 63 = .ok (.getfield 13, 3) := by decide +kernel
theorem dX12_daysUntilFall_66 : decode cX12_daysUntilFall 66 = .ok (.iconst 0, 1) := by decide +kernel
theorem dX12_daysUntilFall_67 : decode cX12_daysUntilFall 67 = .ok (.aload_n 0, 1) := by decide +kernel
theorem dX12_daysUntilFall_68 : decode cX12_daysUntilFall 68 = .ok (.getfield 7, 3) := by decide +kernel
theorem dX12_daysUntilFall_71 : decode cX12_daysUntilFall 71 = .ok (.iconst 0, 1) := by decide +kernel
theorem dX12_daysUntilFall_72 : decode cX12_daysUntilFall 72 = .ok (.invokestatic 282, 3) := by decide +kernel
theorem dX12_daysUntilFall_75 : decode cX12_daysUntilFall 75 = .ok (.aload_n 0, 1) := by decide +kernel
theorem dX12_daysUntilFall_76 : decode cX12_daysUntilFall 76 = .ok (.getfield 26, 3) := by decide +kernel
theorem dX12_daysUntilFall_79 : decode cX12_daysUntilFall 79 = .ok (.iload_n 1, 1) := by decide +kernel
theorem dX12_daysUntilFall_80 : decode cX12_daysUntilFall 80 = .ok (.baload, 1) := by decide +kernel
theorem dX12_daysUntilFall_81 : decode cX12_daysUntilFall 81 = .ok (.ifCond .eq 7, 3) := by decide +kernel
theorem dX12_daysUntilFall_84 : decode cX12_daysUntilFall 84 = .ok (.iload_n 2, 1) := by decide +kernel
theorem dX12_daysUntilFall_85 : decode cX12_daysUntilFall 85 = .ok (.goto 4, 3) := by decide +kernel
theorem dX12_daysUntilFall_88 : decode cX12_daysUntilFall 88 = .ok (.iconst (-1), 1) := by decide +kernel
theorem dX12_daysUntilFall_89 : decode cX12_daysUntilFall 89 = .ok (.ireturn, 1) := by decide +kernel
theorem dX12_daysUntilRetirement_0 : decode cX12_daysUntilRetirement 0 = .ok (.aload_n 0, 1) := by decide +kernel
theorem dX12_daysUntilRetirement_1 : decode cX12_daysUntilRetirement 1 = .ok (.iconst 0, 1) := by decide +kernel
theorem dX12_daysUntilRetirement_2 : decode cX12_daysUntilRetirement 2 = .ok (.putfield 63, 3) := by decide +kernel
theorem dX12_daysUntilRetirement_5 : decode cX12_daysUntilRetirement 5 = .ok (.aload_n 0, 1) := by decide +kernel
theorem dX12_daysUntilRetirement_6 : decode cX12_daysUntilRetirement 6 = .ok (.iload_n 1, 1) := by decide +kernel
theorem dX12_daysUntilRetirement_7 : decode cX12_daysUntilRetirement 7 = .ok (.invokevirtual 427, 3) := by decide +kernel
theorem dX12_daysUntilRetirement_10 : decode cX12_daysUntilRetirement 10 = .ok (.ifCond .ne 12, 3) := by decide +kernel
theorem dX12_daysUntilRetirement_13 : decode cX12_daysUntilRetirement 13 = .ok (.aload_n 0, 1) := by decide +kernel
theorem dX12_daysUntilRetirement_14 : decode cX12_daysUntilRetirement 14 = .ok (.iload_n 1, 1) := by decide +kernel
theorem dX12_daysUntilRetirement_15 : decode cX12_daysUntilRetirement 15 = .ok (.iconst 4, 1) := by decide +kernel
theorem dX12_daysUntilRetirement_16 : decode cX12_daysUntilRetirement 16 = .ok (.invokevirtual 76, 3) := by decide +kernel
theorem dX12_daysUntilRetirement_19 : decode cX12_daysUntilRetirement 19 = .ok (.ifCond .ne 7, 3) := by decide +kernel
theorem dX12_daysUntilRetirement_22 : decode cX12_daysUntilRetirement 22 = .ok (.iconst 0, 1) := by decide +kernel
theorem dX12_daysUntilRetirement_23 : decode cX12_daysUntilRetirement 23 = .ok (.goto 18, 3) := by decide +kernel
theorem dX12_daysUntilRetirement_26 : decode cX12_daysUntilRetirement 26 = .ok (.aload_n 0, 1) := by decide +kernel
theorem dX12_daysUntilRetirement_27 : decode cX12_daysUntilRetirement 27 = .ok (.getfield 7, 3) := by decide +kernel
theorem dX12_daysUntilRetirement_30 : decode cX12_daysUntilRetirement 30 = .ok (.iconst 3, 1) := by decide +kernel
theorem dX12_daysUntilRetirement_31 : decode cX12_daysUntilRetirement 31 = .ok (.iaload, 1) := by decide +kernel
theorem dX12_daysUntilRetirement_32 : decode cX12_daysUntilRetirement 32 = .ok (.iconst 1, 1) := by decide +kernel
theorem dX12_daysUntilRetirement_33 : decode cX12_daysUntilRetirement 33 = .ok (.iadd, 1) := by decide +kernel
theorem dX12_daysUntilRetirement_34 : decode cX12_daysUntilRetirement 34 = .ok (.aload_n 0, 1) := by decide +kernel
theorem dX12_daysUntilRetirement_35 : decode cX12_daysUntilRetirement 35 = .ok (.iload_n 1, 1) := by decide +kernel
theorem dX12_daysUntilRetirement_36 : decode cX12_daysUntilRetirement 36 = .ok (.iconst 3, 1) := by decide +kernel
theorem dX12_daysUntilRetirement_37 : decode cX12_daysUntilRetirement 37 = .ok (.invokevirtual 76, 3) := by decide +kernel
theorem dX12_daysUntilRetirement_40 : decode cX12_daysUntilRetirement 40 = .ok (.isub, 1) := by decide +kernel
theorem dX12_daysUntilRetirement_41 : decode cX12_daysUntilRetirement 41 = .ok (.ireturn, 1) := by decide +kernel
theorem dX12_writes_0 : decode cX12_writes 0 = .ok (.aload_n 0, 1) := by decide +kernel
theorem dX12_writes_1 : decode cX12_writes 1 = .ok (.getfield 45, 3) := by decide +kernel
theorem dX12_writes_4 : decode cX12_writes 4 = .ok (.aload_n 0, 1) := by decide +kernel
theorem dX12_writes_5 : decode cX12_writes 5 = .ok (.getfield 484, 3) := by decide +kernel
theorem dX12_writes_8 : decode cX12_writes 8 = .ok (.iload_n 1, 1) := by decide +kernel
theorem dX12_writes_9 : decode cX12_writes 9 = .ok (.iastore, 1) := by decide +kernel
theorem dX12_writes_10 : decode cX12_writes 10 = .ok (.aload_n 0, 1) := by decide +kernel
theorem dX12_writes_11 : decode cX12_writes 11 = .ok (.dup, 1) := by decide +kernel
theorem dX12_writes_12 : decode cX12_writes 12 = .ok (.getfield 484, 3) := by decide +kernel
theorem dX12_writes_15 : decode cX12_writes 15 = .ok (.iconst 1, 1) := by decide +kernel
theorem dX12_writes_16 : decode cX12_writes 16 = .ok (.iadd, 1) := by decide +kernel
theorem dX12_writes_17 : decode cX12_writes 17 = .ok (.putfield 484, 3) := by decide +kernel
theorem dX12_writes_20 : decode cX12_writes 20 = .ok (.return_, 1) := by decide +kernel
theorem dX12_writesSeat_0 : decode cX12_writesSeat 0 = .ok (.aload_n 0, 1) := by decide +kernel
theorem dX12_writesSeat_1 : decode cX12_writesSeat 1 = .ok (.iload_n 1, 1) := by decide +kernel
theorem dX12_writesSeat_2 : decode cX12_writesSeat 2 = .ok (.iload_n 2, 1) := by decide +kernel
theorem dX12_writesSeat_3 : decode cX12_writesSeat 3 = .ok (.invokevirtual 90, 3) := by decide +kernel
theorem dX12_writesSeat_6 : decode cX12_writesSeat 6 = .ok (.istore_n 3, 1) := by decide +kernel
theorem dX12_writesSeat_7 : decode cX12_writesSeat 7 = .ok (.iload_n 3, 1) := by decide +kernel
theorem dX12_writesSeat_8 : decode cX12_writesSeat 8 = .ok (.iconst (-1), 1) := by decide +kernel
theorem dX12_writesSeat_9 : decode cX12_writesSeat 9 = .ok (.if_icmp .ne 10, 3) := by decide +kernel
theorem dX12_writesSeat_12 : decode cX12_writesSeat 12 = .ok (.aload_n 0, 1) := by decide +kernel
theorem dX12_writesSeat_13 : decode cX12_writesSeat 13 = .ok (.bipush 46, 2) := by decide +kernel
theorem dX12_writesSeat_15 : decode cX12_writesSeat 15 = .ok (.invokevirtual 487, 3) := by decide +kernel
theorem dX12_writesSeat_18 : decode cX12_writesSeat 18 = .ok (.return_, 1) := by decide +kernel
theorem dX12_writesSeat_19 : decode cX12_writesSeat 19 = .ok (.iconst 0, 1) := by decide +kernel
theorem dX12_writesSeat_20 : decode cX12_writesSeat 20 = .ok (.istore 4, 2) := by decide +kernel
theorem dX12_writesSeat_22 : decode cX12_writesSeat 22 = .ok (.iload 4, 2) := by decide +kernel
theorem dX12_writesSeat_24 : decode cX12_writesSeat 24 = .ok (.aload_n 0, 1) := by decide +kernel
theorem dX12_writesSeat_25 : decode cX12_writesSeat 25 = .ok (.iload_n 3, 1) := by decide +kernel
theorem dX12_writesSeat_26 : decode cX12_writesSeat 26 = .ok (.iconst 0, 1) := by decide +kernel
theorem dX12_writesSeat_27 : decode cX12_writesSeat 27 = .ok (.invokevirtual 76, 3) := by decide +kernel
theorem dX12_writesSeat_30 : decode cX12_writesSeat 30 = .ok (.invokestatic 449, 3) := by decide +kernel
theorem dX12_writesSeat_33 : decode cX12_writesSeat 33 = .ok (.if_icmp .ge 24, 3) := by decide +kernel
theorem dX12_writesSeat_36 : decode cX12_writesSeat 36 = .ok (.aload_n 0, 1) := by decide +kernel
theorem dX12_writesSeat_37 : decode cX12_writesSeat 37 = .ok (.aload_n 0, 1) := by decide +kernel
theorem dX12_writesSeat_38 : decode cX12_writesSeat 38 = .ok (.iload_n 3, 1) := by decide +kernel
theorem dX12_writesSeat_39 : decode cX12_writesSeat 39 = .ok (.iconst 0, 1) := by decide +kernel
theorem dX12_writesSeat_40 : decode cX12_writesSeat 40 = .ok (.invokevirtual 76, 3) := by decide +kernel
theorem dX12_writesSeat_43 : decode cX12_writesSeat 43 = .ok (.iload 4, 2) := by decide +kernel
theorem dX12_writesSeat_45 : decode cX12_writesSeat 45 = .ok (.invokestatic 452, 3) := by decide +kernel
theorem dX12_writesSeat_48 : decode cX12_writesSeat 48 = .ok (.invokevirtual 487, 3) := by decide +kernel
theorem dX12_writesSeat_51 : decode cX12_writesSeat 51 = .ok (.iinc 4 1, 3) := by decide +kernel
theorem dX12_writesSeat_54 : decode cX12_writesSeat 54 = .ok (.goto (-32), 3) := by decide +kernel
theorem dX12_writesSeat_57 : decode cX12_writesSeat 57 = .ok (.return_, 1) := by decide +kernel
theorem dX12_writeBoard_0 : decode cX12_writeBoard 0 = .ok (.aload_n 0, 1) := by decide +kernel
theorem dX12_writeBoard_1 : decode cX12_writeBoard 1 = .ok (.iconst 0, 1) := by decide +kernel
theorem dX12_writeBoard_2 : decode cX12_writeBoard 2 = .ok (.putfield 63, 3) := by decide +kernel
theorem dX12_writeBoard_5 : decode cX12_writeBoard 5 = .ok (.aload_n 0, 1) := by decide +kernel
theorem dX12_writeBoard_6 : decode cX12_writeBoard 6 = .ok (.iload_n 1, 1) := by decide +kernel
theorem dX12_writeBoard_7 : decode cX12_writeBoard 7 = .ok (.invokevirtual 417, 3) := by decide +kernel
theorem dX12_writeBoard_10 : decode cX12_writeBoard 10 = .ok (.ifCond .eq 5, 3) := by decide +kernel
theorem dX12_writeBoard_13 : decode cX12_writeBoard 13 = .ok (.iconst 0, 1) := by decide +kernel
theorem dX12_writeBoard_14 : decode cX12_writeBoard 14 = .ok (.ireturn, 1) := by decide +kernel
theorem dX12_writeBoard_15 : decode cX12_writeBoard 15 = .ok (.aload_n 0, 1) := by decide +kernel
theorem dX12_writeBoard_16 : decode cX12_writeBoard 16 = .ok (.iconst 0, 1) := by decide +kernel
theorem dX12_writeBoard_17 : decode cX12_writeBoard 17 = .ok (.putfield 484, 3) := by decide +kernel
theorem dX12_writeBoard_20 : decode cX12_writeBoard 20 = .ok (.aload_n 0, 1) := by decide +kernel
theorem dX12_writeBoard_21 : decode cX12_writeBoard 21 = .ok (.iload_n 1, 1) := by decide +kernel
theorem dX12_writeBoard_22 : decode cX12_writeBoard 22 = .ok (.iconst 0, 1) := by decide +kernel
theorem dX12_writeBoard_23 : decode cX12_writeBoard 23 = .ok (.invokevirtual 83, 3) := by decide +kernel
theorem dX12_writeBoard_26 : decode cX12_writeBoard 26 = .ok (.ineg, 1) := by decide +kernel
theorem dX12_writeBoard_27 : decode cX12_writeBoard 27 = .ok (.istore_n 2, 1) := by decide +kernel
theorem dX12_writeBoard_28 : decode cX12_writeBoard 28 = .ok (.iload_n 2, 1) := by decide +kernel
theorem dX12_writeBoard_29 : decode cX12_writeBoard 29 = .ok (.aload_n 0, 1) := by decide +kernel
theorem dX12_writeBoard_30 : decode cX12_writeBoard 30 = .ok (.iload_n 1, 1) := by decide +kernel
theorem dX12_writeBoard_31 : decode cX12_writeBoard 31 = .ok (.iconst 0, 1) := by decide +kernel
theorem dX12_writeBoard_32 : decode cX12_writeBoard 32 = .ok (.invokevirtual 83, 3) := by decide +kernel
theorem dX12_writeBoard_35 : decode cX12_writeBoard 35 = .ok (.if_icmp .gt 41, 3) := by decide +kernel
theorem dX12_writeBoard_38 : decode cX12_writeBoard 38 = .ok (.aload_n 0, 1) := by decide +kernel
theorem dX12_writeBoard_39 : decode cX12_writeBoard 39 = .ok (.getfield 484, 3) := by decide +kernel
theorem dX12_writeBoard_42 : decode cX12_writeBoard 42 = .ok (.ifCond .le 9, 3) := by decide +kernel
theorem dX12_writeBoard_45 : decode cX12_writeBoard 45 = .ok (.aload_n 0, 1) := by decide +kernel
theorem dX12_writeBoard_46 : decode cX12_writeBoard 46 = .ok (.bipush 32, 2) := by decide +kernel
theorem dX12_writeBoard_48 : decode cX12_writeBoard 48 = .ok (.invokevirtual 487, 3) := by decide +kernel
theorem dX12_writeBoard_51 : decode cX12_writeBoard 51 = .ok (.iload_n 2, 1) := by decide +kernel
theorem dX12_writeBoard_52 : decode cX12_writeBoard 52 = .ok (.ifCond .ne 12, 3) := by decide +kernel
theorem dX12_writeBoard_55 : decode cX12_writeBoard 55 = .ok (.aload_n 0, 1) := by decide +kernel
theorem dX12_writeBoard_56 : decode cX12_writeBoard 56 = .ok (.bipush 94, 2) := by decide +kernel
theorem dX12_writeBoard_58 : decode cX12_writeBoard 58 = .ok (.invokevirtual 487, 3) := by decide +kernel
theorem dX12_writeBoard_61 : decode cX12_writeBoard 61 = .ok (.goto 9, 3) := by decide +kernel
theorem dX12_writeBoard_64 : decode cX12_writeBoard 64 = .ok (.aload_n 0, 1) := by decide +kernel
theorem dX12_writeBoard_65 : decode cX12_writeBoard 65 = .ok (.iload_n 1, 1) := by decide +kernel
theorem dX12_writeBoard_66 : decode cX12_writeBoard 66 = .ok (.iload_n 2, 1) := by decide +kernel
theorem dX12_writeBoard_67 : decode cX12_writeBoard 67 = .ok (.invokevirtual 490, 3) := by decide +kernel
theorem dX12_writeBoard_70 : decode cX12_writeBoard 70 = .ok (.iinc 2 1, 3) := by decide +kernel
theorem dX12_writeBoard_73 : decode cX12_writeBoard 73 = .ok (.goto (-45), 3) := by decide +kernel
theorem dX12_writeBoard_76 : decode cX12_writeBoard 76 = .ok (.aload_n 0, 1) := by decide +kernel
theorem dX12_writeBoard_77 : decode cX12_writeBoard 77 = .ok (.getfield 484, 3) := by decide +kernel
theorem dX12_writeBoard_80 : decode cX12_writeBoard 80 = .ok (.ireturn, 1) := by decide +kernel
theorem dX12_outputByte_0 : decode cX12_outputByte 0 = .ok (.aload_n 0, 1) := by decide +kernel
theorem dX12_outputByte_1 : decode cX12_outputByte 1 = .ok (.iconst 0, 1) := by decide +kernel
theorem dX12_outputByte_2 : decode cX12_outputByte 2 = .ok (.putfield 63, 3) := by decide +kernel
theorem dX12_outputByte_5 : decode cX12_outputByte 5 = .ok (.iload_n 1, 1) := by decide +kernel
theorem dX12_outputByte_6 : decode cX12_outputByte 6 = .ok (.i2l, 1) := by decide +kernel
theorem dX12_outputByte_7 : decode cX12_outputByte 7 = .ok (.lconst 0, 1) := by decide +kernel
theorem dX12_outputByte_8 : decode cX12_outputByte 8 = .ok (.aload_n 0, 1) := by decide +kernel
theorem dX12_outputByte_9 : decode cX12_outputByte 9 = .ok (.getfield 484, 3) := by decide +kernel
theorem dX12_outputByte_12 : decode cX12_outputByte 12 = .ok (.iconst 1, 1) := by decide +kernel
theorem dX12_outputByte_13 : decode cX12_outputByte 13 = .ok (.isub, 1) := by decide +kernel
theorem dX12_outputByte_14 : decode cX12_outputByte 14 = .ok (.i2l, 1) := by decide +kernel
theorem dX12_outputByte_15 : decode cX12_outputByte 15 = .ok (.invokestatic 86, 3) := by decide +kernel
theorem dX12_outputByte_18 : decode cX12_outputByte 18 = .ok (.ifCond .eq 12, 3) := by decide +kernel
theorem dX12_outputByte_21 : decode cX12_outputByte 21 = .ok (.aload_n 0, 1) := by decide +kernel
theorem dX12_outputByte_22 : decode cX12_outputByte 22 = .ok (.getfield 45, 3) := by decide +kernel
theorem dX12_outputByte_25 : decode cX12_outputByte 25 = .ok (.iload_n 1, 1) := by decide +kernel
theorem dX12_outputByte_26 : decode cX12_outputByte 26 = .ok (.iaload, 1) := by decide +kernel
theorem dX12_outputByte_27 : decode cX12_outputByte 27 = .ok (.goto 4, 3) := by decide +kernel
theorem dX12_outputByte_30 : decode cX12_outputByte 30 = .ok (.iconst (-1), 1) := by decide +kernel
theorem dX12_outputByte_31 : decode cX12_outputByte 31 = .ok (.ireturn, 1) := by decide +kernel
theorem dJ9_abs_0f7a4_0 : decode cJ9_abs_0f7a4 0 = .ok (.iload_n 0, 1) := by decide +kernel
theorem dJ9_abs_0f7a4_1 : decode cJ9_abs_0f7a4 1 = .ok (.ifCond .ge 8, 3) := by decide +kernel
theorem dJ9_abs_0f7a4_4 : decode cJ9_abs_0f7a4 4 = .ok (.iload_n 0, 1) := by decide +kernel
theorem dJ9_abs_0f7a4_5 : decode cJ9_abs_0f7a4 5 = .ok (.ineg, 1) := by decide +kernel
theorem dJ9_abs_0f7a4_6 : decode cJ9_abs_0f7a4 6 = .ok (.goto 4, 3) := by decide +kernel
theorem dJ9_abs_0f7a4_9 : decode cJ9_abs_0f7a4 9 = .ok (.iload_n 0, 1) := by decide +kernel
theorem dJ9_abs_0f7a4_10 : decode cJ9_abs_0f7a4 10 = .ok (.ireturn, 1) := by decide +kernel
theorem dJ9_max_7cf53_0 : decode cJ9_max_7cf53 0 = .ok (.iload_n 0, 1) := by decide +kernel
theorem dJ9_max_7cf53_1 : decode cJ9_max_7cf53 1 = .ok (.iload_n 1, 1) := by decide +kernel
theorem dJ9_max_7cf53_2 : decode cJ9_max_7cf53 2 = .ok (.if_icmp .lt 7, 3) := by decide +kernel
theorem dJ9_max_7cf53_5 : decode cJ9_max_7cf53 5 = .ok (.iload_n 0, 1) := by decide +kernel
theorem dJ9_max_7cf53_6 : decode cJ9_max_7cf53 6 = .ok (.goto 4, 3) := by decide +kernel
theorem dJ9_max_7cf53_9 : decode cJ9_max_7cf53 9 = .ok (.iload_n 1, 1) := by decide +kernel
theorem dJ9_max_7cf53_10 : decode cJ9_max_7cf53 10 = .ok (.ireturn, 1) := by decide +kernel
theorem dJ9_min_7cf53_0 : decode cJ9_min_7cf53 0 = .ok (.iload_n 0, 1) := by decide +kernel
theorem dJ9_min_7cf53_1 : decode cJ9_min_7cf53 1 = .ok (.iload_n 1, 1) := by decide +kernel
theorem dJ9_min_7cf53_2 : decode cJ9_min_7cf53 2 = .ok (.if_icmp .gt 7, 3) := by decide +kernel
theorem dJ9_min_7cf53_5 : decode cJ9_min_7cf53 5 = .ok (.iload_n 0, 1) := by decide +kernel
theorem dJ9_min_7cf53_6 : decode cJ9_min_7cf53 6 = .ok (.goto 4, 3) := by decide +kernel
theorem dJ9_min_7cf53_9 : decode cJ9_min_7cf53 9 = .ok (.iload_n 1, 1) := by decide +kernel
theorem dJ9_min_7cf53_10 : decode cJ9_min_7cf53 10 = .ok (.ireturn, 1) := by decide +kernel
theorem dJ0_length_8abf5_0 : decode cJ0_length_8abf5 0 = .ok (.aload_n 0, 1) := by decide +kernel
theorem dJ0_length_8abf5_1 : decode cJ0_length_8abf5 1 = .ok (.getfield 9, 3) := by decide +kernel
theorem dJ0_length_8abf5_4 : decode cJ0_length_8abf5 4 = .ok (.arraylength, 1) := by decide +kernel
theorem dJ0_length_8abf5_5 : decode cJ0_length_8abf5 5 = .ok (.aload_n 0, 1) := by decide +kernel
theorem dJ0_length_8abf5_6 : decode cJ0_length_8abf5 6 = .ok (.invokevirtual 335, 3) := by decide +kernel
theorem dJ0_length_8abf5_9 : decode cJ0_length_8abf5 9 = .ok (.ishr, 1) := by decide +kernel
theorem dJ0_length_8abf5_10 : decode cJ0_length_8abf5 10 = .ok (.ireturn, 1) := by decide +kernel
theorem dJ0_charAt_5068e_0 : decode cJ0_charAt_5068e 0 = .ok (.aload_n 0, 1) := by decide +kernel
theorem dJ0_charAt_5068e_1 : decode cJ0_charAt_5068e 1 = .ok (.invokevirtual 492, 3) := by decide +kernel
theorem dJ0_charAt_5068e_4 : decode cJ0_charAt_5068e 4 = .ok (.ifCond .eq 12, 3) := by decide +kernel
theorem dJ0_charAt_5068e_7 : decode cJ0_charAt_5068e 7 = .ok (.aload_n 0, 1) := by decide +kernel
theorem dJ0_charAt_5068e_8 : decode cJ0_charAt_5068e 8 = .ok (.getfield 9, 3) := by decide +kernel
theorem dJ0_charAt_5068e_11 : decode cJ0_charAt_5068e 11 = .ok (.iload_n 1, 1) := by decide +kernel
theorem dJ0_charAt_5068e_12 : decode cJ0_charAt_5068e 12 = .ok (.invokestatic 495, 3) := by decide +kernel
theorem dJ0_charAt_5068e_15 : decode cJ0_charAt_5068e 15 = .ok (.ireturn, 1) := by decide +kernel
theorem dJ0_charAt_5068e_16 : decode cJ0_charAt_5068e 16 = .ok (.aload_n 0, 1) := by decide +kernel
theorem dJ0_charAt_5068e_17 : decode cJ0_charAt_5068e 17 = .ok (.getfield 9, 3) := by decide +kernel
theorem dJ0_charAt_5068e_20 : decode cJ0_charAt_5068e 20 = .ok (.iload_n 1, 1) := by decide +kernel
theorem dJ0_charAt_5068e_21 : decode cJ0_charAt_5068e 21 = .ok (.invokestatic 498, 3) := by decide +kernel
theorem dJ0_charAt_5068e_24 : decode cJ0_charAt_5068e 24 = .ok (.ireturn, 1) := by decide +kernel
theorem dJ0_coder_7d493_0 : decode cJ0_coder_7d493 0 = .ok (.getstatic 38, 3) := by decide +kernel
theorem dJ0_coder_7d493_3 : decode cJ0_coder_7d493 3 = .ok (.ifCond .eq 10, 3) := by decide +kernel
theorem dJ0_coder_7d493_6 : decode cJ0_coder_7d493 6 = .ok (.aload_n 0, 1) := by decide +kernel
theorem dJ0_coder_7d493_7 : decode cJ0_coder_7d493 7 = .ok (.getfield 15, 3) := by decide +kernel
theorem dJ0_coder_7d493_10 : decode cJ0_coder_7d493 10 = .ok (.goto 4, 3) := by decide +kernel
theorem dJ0_coder_7d493_13 : decode cJ0_coder_7d493 13 = .ok (.iconst 1, 1) := by decide +kernel
theorem dJ0_coder_7d493_14 : decode cJ0_coder_7d493 14 = .ok (.ireturn, 1) := by decide +kernel
theorem dJ0_isLatin1_aae02_0 : decode cJ0_isLatin1_aae02 0 = .ok (.getstatic 38, 3) := by decide +kernel
theorem dJ0_isLatin1_aae02_3 : decode cJ0_isLatin1_aae02 3 = .ok (.ifCond .eq 14, 3) := by decide +kernel
theorem dJ0_isLatin1_aae02_6 : decode cJ0_isLatin1_aae02 6 = .ok (.aload_n 0, 1) := by decide +kernel
theorem dJ0_isLatin1_aae02_7 : decode cJ0_isLatin1_aae02 7 = .ok (.getfield 15, 3) := by decide +kernel
theorem dJ0_isLatin1_aae02_10 : decode cJ0_isLatin1_aae02 10 = .ok (.ifCond .ne 7, 3) := by decide +kernel
theorem dJ0_isLatin1_aae02_13 : decode cJ0_isLatin1_aae02 13 = .ok (.iconst 1, 1) := by decide +kernel
theorem dJ0_isLatin1_aae02_14 : decode cJ0_isLatin1_aae02 14 = .ok (.goto 4, 3) := by decide +kernel
theorem dJ0_isLatin1_aae02_17 : decode cJ0_isLatin1_aae02 17 = .ok (.iconst 0, 1) := by decide +kernel
theorem dJ0_isLatin1_aae02_18 : decode cJ0_isLatin1_aae02 18 = .ok (.ireturn, 1) := by decide +kernel
theorem dJ0_checkIndex_df160_0 : decode cJ0_checkIndex_df160 0 = .ok (.iload_n 0, 1) := by decide +kernel
theorem dJ0_checkIndex_df160_1 : decode cJ0_checkIndex_df160 1 = .ok (.iload_n 1, 1) := by decide +kernel
theorem dJ0_checkIndex_df160_2 : decode cJ0_checkIndex_df160 2 = .ok (.getstatic 1053, 3) := by decide +kernel
theorem dJ0_checkIndex_df160_5 : decode cJ0_checkIndex_df160 5 = .ok (.invokestatic 1059, 3) := by decide +kernel
theorem dJ0_checkIndex_df160_8 : decode cJ0_checkIndex_df160 8 = .ok (.pop, 1) := by decide +kernel
theorem dJ0_checkIndex_df160_9 : decode cJ0_checkIndex_df160 9 = .ok (.return_, 1) := by decide +kernel
theorem dJ1_charAt_3b067_0 : decode cJ1_charAt_3b067 0 = .ok (.iload_n 1, 1) := by decide +kernel
theorem dJ1_charAt_3b067_1 : decode cJ1_charAt_3b067 1 = .ok (.aload_n 0, 1) := by decide +kernel
theorem dJ1_charAt_3b067_2 : decode cJ1_charAt_3b067 2 = .ok (.arraylength, 1) := by decide +kernel
theorem dJ1_charAt_3b067_3 : decode cJ1_charAt_3b067 3 = .ok (.invokestatic 9, 3) := by decide +kernel
theorem dJ1_charAt_3b067_6 : decode cJ1_charAt_3b067 6 = .ok (.aload_n 0, 1) := by decide +kernel
theorem dJ1_charAt_3b067_7 : decode cJ1_charAt_3b067 7 = .ok (.iload_n 1, 1) := by decide +kernel
theorem dJ1_charAt_3b067_8 : decode cJ1_charAt_3b067 8 = .ok (.baload, 1) := by decide +kernel
theorem dJ1_charAt_3b067_9 : decode cJ1_charAt_3b067 9 = .ok (.sipush 255, 3) := by decide +kernel
theorem dJ1_charAt_3b067_12 : decode cJ1_charAt_3b067 12 = .ok (.iand, 1) := by decide +kernel
theorem dJ1_charAt_3b067_13 : decode cJ1_charAt_3b067 13 = .ok (.i2c, 1) := by decide +kernel
theorem dJ1_charAt_3b067_14 : decode cJ1_charAt_3b067 14 = .ok (.ireturn, 1) := by decide +kernel
theorem dJ2_getChar_3b067_0 : decode cJ2_getChar_3b067 0 = .ok (.getstatic 44, 3) := by decide +kernel
theorem dJ2_getChar_3b067_3 : decode cJ2_getChar_3b067 3 = .ok (.ifCond .ne 25, 3) := by decide +kernel
theorem dJ2_getChar_3b067_6 : decode cJ2_getChar_3b067 6 = .ok (.iload_n 1, 1) := by decide +kernel
theorem dJ2_getChar_3b067_7 : decode cJ2_getChar_3b067 7 = .ok (.ifCond .lt 11, 3) := by decide +kernel
theorem dJ2_getChar_3b067_10 : decode cJ2_getChar_3b067 10 = .ok (.iload_n 1, 1) := by decide +kernel
theorem dJ2_getChar_3b067_11 : decode cJ2_getChar_3b067 11 = .ok (.aload_n 0, 1) := by decide +kernel
theorem dJ2_getChar_3b067_12 : decode cJ2_getChar_3b067 12 = .ok (.invokestatic 48, 3) := by decide +kernel
theorem dJ2_getChar_3b067_15 : decode cJ2_getChar_3b067 15 = .ok (.if_icmp .lt 13, 3) := by decide +kernel
theorem dJ2_getChar_3b067_18 : decode cJ2_getChar_3b067 18 = .ok (.new 52, 3) := by decide +kernel
theorem dJ2_getChar_3b067_21 : decode cJ2_getChar_3b067 21 = .ok (.dup, 1) := by decide +kernel
theorem dJ2_getChar_3b067_22 : decode cJ2_getChar_3b067 22 = .ok (.ldc 54, 2) := by decide +kernel
theorem dJ2_getChar_3b067_24 : decode cJ2_getChar_3b067 24 = .ok (.invokespecial 56, 3) := by decide +kernel
theorem dJ2_getChar_3b067_27 : decode cJ2_getChar_3b067 27 = .ok (.athrow, 1) := by decide +kernel
theorem dJ2_getChar_3b067_28 : decode cJ2_getChar_3b067 28 = .ok (.iload_n 1, 1) := by decide +kernel
theorem dJ2_getChar_3b067_29 : decode cJ2_getChar_3b067 29 = .ok (.iconst 1, 1) := by decide +kernel
theorem dJ2_getChar_3b067_30 : decode cJ2_getChar_3b067 30 = .ok (.ishl, 1) := by decide +kernel
theorem dJ2_getChar_3b067_31 : decode cJ2_getChar_3b067 31 = .ok (.istore_n 1, 1) := by decide +kernel
theorem dJ2_getChar_3b067_32 : decode cJ2_getChar_3b067 32 = .ok (.aload_n 0, 1) := by decide +kernel
theorem dJ2_getChar_3b067_33 : decode cJ2_getChar_3b067 33 = .ok (.iload_n 1, 1) := by decide +kernel
theorem dJ2_getChar_3b067_34 : decode cJ2_getChar_3b067 34 = .ok (.iinc 1 1, 3) := by decide +kernel
theorem dJ2_getChar_3b067_37 : decode cJ2_getChar_3b067 37 = .ok (.baload, 1) := by decide +kernel
theorem dJ2_getChar_3b067_38 : decode cJ2_getChar_3b067 38 = .ok (.sipush 255, 3) := by decide +kernel
theorem dJ2_getChar_3b067_41 : decode cJ2_getChar_3b067 41 = .ok (.iand, 1) := by decide +kernel
theorem dJ2_getChar_3b067_42 : decode cJ2_getChar_3b067 42 = .ok (.getstatic 59, 3) := by decide +kernel
theorem dJ2_getChar_3b067_45 : decode cJ2_getChar_3b067 45 = .ok (.ishl, 1) := by decide +kernel
theorem dJ2_getChar_3b067_46 : decode cJ2_getChar_3b067 46 = .ok (.aload_n 0, 1) := by decide +kernel
theorem dJ2_getChar_3b067_47 : decode cJ2_getChar_3b067 47 = .ok (.iload_n 1, 1) := by decide +kernel
theorem dJ2_getChar_3b067_48 : decode cJ2_getChar_3b067 48 = .ok (.baload, 1) := by decide +kernel
theorem dJ2_getChar_3b067_49 : decode cJ2_getChar_3b067 49 = .ok (.sipush 255, 3) := by decide +kernel
theorem dJ2_getChar_3b067_52 : decode cJ2_getChar_3b067 52 = .ok (.iand, 1) := by decide +kernel
theorem dJ2_getChar_3b067_53 : decode cJ2_getChar_3b067 53 = .ok (.getstatic 63, 3) := by decide +kernel
theorem dJ2_getChar_3b067_56 : decode cJ2_getChar_3b067 56 = .ok (.ishl, 1) := by decide +kernel
theorem dJ2_getChar_3b067_57 : decode cJ2_getChar_3b067 57 = .ok (.ior, 1) := by decide +kernel
theorem dJ2_getChar_3b067_58 : decode cJ2_getChar_3b067 58 = .ok (.i2c, 1) := by decide +kernel
theorem dJ2_getChar_3b067_59 : decode cJ2_getChar_3b067 59 = .ok (.ireturn, 1) := by decide +kernel
theorem dJ2_length_9d52b_0 : decode cJ2_length_9d52b 0 = .ok (.aload_n 0, 1) := by decide +kernel
theorem dJ2_length_9d52b_1 : decode cJ2_length_9d52b 1 = .ok (.arraylength, 1) := by decide +kernel
theorem dJ2_length_9d52b_2 : decode cJ2_length_9d52b 2 = .ok (.iconst 1, 1) := by decide +kernel
theorem dJ2_length_9d52b_3 : decode cJ2_length_9d52b 3 = .ok (.ishr, 1) := by decide +kernel
theorem dJ2_length_9d52b_4 : decode cJ2_length_9d52b 4 = .ok (.ireturn, 1) := by decide +kernel
theorem dJ2_charAt_3b067_0 : decode cJ2_charAt_3b067 0 = .ok (.iload_n 1, 1) := by decide +kernel
theorem dJ2_charAt_3b067_1 : decode cJ2_charAt_3b067 1 = .ok (.aload_n 0, 1) := by decide +kernel
theorem dJ2_charAt_3b067_2 : decode cJ2_charAt_3b067 2 = .ok (.invokestatic 67, 3) := by decide +kernel
theorem dJ2_charAt_3b067_5 : decode cJ2_charAt_3b067 5 = .ok (.aload_n 0, 1) := by decide +kernel
theorem dJ2_charAt_3b067_6 : decode cJ2_charAt_3b067 6 = .ok (.iload_n 1, 1) := by decide +kernel
theorem dJ2_charAt_3b067_7 : decode cJ2_charAt_3b067 7 = .ok (.invokestatic 71, 3) := by decide +kernel
theorem dJ2_charAt_3b067_10 : decode cJ2_charAt_3b067 10 = .ok (.ireturn, 1) := by decide +kernel
theorem dJ2_checkIndex_2214a_0 : decode cJ2_checkIndex_2214a 0 = .ok (.iload_n 0, 1) := by decide +kernel
theorem dJ2_checkIndex_2214a_1 : decode cJ2_checkIndex_2214a 1 = .ok (.aload_n 1, 1) := by decide +kernel
theorem dJ2_checkIndex_2214a_2 : decode cJ2_checkIndex_2214a 2 = .ok (.invokestatic 48, 3) := by decide +kernel
theorem dJ2_checkIndex_2214a_5 : decode cJ2_checkIndex_2214a 5 = .ok (.invokestatic 414, 3) := by decide +kernel
theorem dJ2_checkIndex_2214a_8 : decode cJ2_checkIndex_2214a 8 = .ok (.return_, 1) := by decide +kernel
theorem dJ3_checkIndex_8e157_0 : decode cJ3_checkIndex_8e157 0 = .ok (.iload_n 0, 1) := by decide +kernel
theorem dJ3_checkIndex_8e157_1 : decode cJ3_checkIndex_8e157 1 = .ok (.ifCond .lt 8, 3) := by decide +kernel
theorem dJ3_checkIndex_8e157_4 : decode cJ3_checkIndex_8e157 4 = .ok (.iload_n 0, 1) := by decide +kernel
theorem dJ3_checkIndex_8e157_5 : decode cJ3_checkIndex_8e157 5 = .ok (.iload_n 1, 1) := by decide +kernel
theorem dJ3_checkIndex_8e157_6 : decode cJ3_checkIndex_8e157 6 = .ok (.if_icmp .lt 10, 3) := by decide +kernel
theorem dJ3_checkIndex_8e157_9 : decode cJ3_checkIndex_8e157 9 = .ok (.aload_n 2, 1) := by decide +kernel
theorem dJ3_checkIndex_8e157_10 : decode cJ3_checkIndex_8e157 10 = .ok (.iload_n 0, 1) := by decide +kernel
theorem dJ3_checkIndex_8e157_11 : decode cJ3_checkIndex_8e157 11 = .ok (.iload_n 1, 1) := by decide +kernel
theorem dJ3_checkIndex_8e157_12 : decode cJ3_checkIndex_8e157 12 = .ok (.invokestatic 95, 3) := by decide +kernel
theorem dJ3_checkIndex_8e157_15 : decode cJ3_checkIndex_8e157 15 = .ok (.athrow, 1) := by decide +kernel
theorem dJ3_checkIndex_8e157_16 : decode cJ3_checkIndex_8e157 16 = .ok (.iload_n 0, 1) := by decide +kernel
theorem dJ3_checkIndex_8e157_17 : decode cJ3_checkIndex_8e157 17 = .ok (.ireturn, 1) := by decide +kernel
theorem dL_append_0 : decode cL_append 0 = .ok (.aload 6, 2) := by decide +kernel
theorem dL_append_2 : decode cL_append 2 = .ok (.iconst 0, 1) := by decide +kernel
theorem dL_append_3 : decode cL_append 3 = .ok (.aload_n 0, 1) := by decide +kernel
theorem dL_append_4 : decode cL_append 4 = .ok (.iload_n 1, 1) := by decide +kernel
theorem dL_append_5 : decode cL_append 5 = .ok (.iload_n 2, 1) := by decide +kernel
theorem dL_append_6 : decode cL_append 6 = .ok (.iload_n 3, 1) := by decide +kernel
theorem dL_append_7 : decode cL_append 7 = .ok (.iload 4, 2) := by decide +kernel
theorem dL_append_9 : decode cL_append 9 = .ok (.iload 5, 2) := by decide +kernel
theorem dL_append_11 : decode cL_append 11 = .ok (.invokevirtual 7, 3) := by decide +kernel
theorem dL_append_14 : decode cL_append 14 = .ok (.i2l, 1) := by decide +kernel
theorem dL_append_15 : decode cL_append 15 = .ok (.lastore, 1) := by decide +kernel
theorem dL_append_16 : decode cL_append 16 = .ok (.goto 7, 3) := by decide +kernel
theorem dL_append_19 : decode cL_append 19 = .ok (.astore 7, 2) := by decide +kernel
theorem dL_append_21 : decode cL_append 21 = .ok (.iconst 1, 1) := by decide +kernel
theorem dL_append_22 : decode cL_append 22 = .ok (.ireturn, 1) := by decide +kernel
theorem dL_append_23 : decode cL_append 23 = .ok (.iconst 0, 1) := by decide +kernel
theorem dL_append_24 : decode cL_append 24 = .ok (.ireturn, 1) := by decide +kernel
theorem dL_truncate_0 : decode cL_truncate 0 = .ok (.aload_n 2, 1) := by decide +kernel
theorem dL_truncate_1 : decode cL_truncate 1 = .ok (.iconst 0, 1) := by decide +kernel
theorem dL_truncate_2 : decode cL_truncate 2 = .ok (.aload_n 0, 1) := by decide +kernel
theorem dL_truncate_3 : decode cL_truncate 3 = .ok (.iload_n 1, 1) := by decide +kernel
theorem dL_truncate_4 : decode cL_truncate 4 = .ok (.invokevirtual 15, 3) := by decide +kernel
theorem dL_truncate_7 : decode cL_truncate 7 = .ok (.i2l, 1) := by decide +kernel
theorem dL_truncate_8 : decode cL_truncate 8 = .ok (.lastore, 1) := by decide +kernel
theorem dL_truncate_9 : decode cL_truncate 9 = .ok (.goto 6, 3) := by decide +kernel
theorem dL_truncate_12 : decode cL_truncate 12 = .ok (.astore_n 3, 1) := by decide +kernel
theorem dL_truncate_13 : decode cL_truncate 13 = .ok (.iconst 1, 1) := by decide +kernel
theorem dL_truncate_14 : decode cL_truncate 14 = .ok (.ireturn, 1) := by decide +kernel
theorem dL_truncate_15 : decode cL_truncate 15 = .ok (.iconst 0, 1) := by decide +kernel
theorem dL_truncate_16 : decode cL_truncate 16 = .ok (.ireturn, 1) := by decide +kernel
theorem dL_armLength_0 : decode cL_armLength 0 = .ok (.aload_n 2, 1) := by decide +kernel
theorem dL_armLength_1 : decode cL_armLength 1 = .ok (.iconst 0, 1) := by decide +kernel
theorem dL_armLength_2 : decode cL_armLength 2 = .ok (.aload_n 0, 1) := by decide +kernel
theorem dL_armLength_3 : decode cL_armLength 3 = .ok (.iload_n 1, 1) := by decide +kernel
theorem dL_armLength_4 : decode cL_armLength 4 = .ok (.invokevirtual 21, 3) := by decide +kernel
theorem dL_armLength_7 : decode cL_armLength 7 = .ok (.i2l, 1) := by decide +kernel
theorem dL_armLength_8 : decode cL_armLength 8 = .ok (.lastore, 1) := by decide +kernel
theorem dL_armLength_9 : decode cL_armLength 9 = .ok (.goto 6, 3) := by decide +kernel
theorem dL_armLength_12 : decode cL_armLength 12 = .ok (.astore_n 3, 1) := by decide +kernel
theorem dL_armLength_13 : decode cL_armLength 13 = .ok (.iconst 1, 1) := by decide +kernel
theorem dL_armLength_14 : decode cL_armLength 14 = .ok (.ireturn, 1) := by decide +kernel
theorem dL_armLength_15 : decode cL_armLength 15 = .ok (.iconst 0, 1) := by decide +kernel
theorem dL_armLength_16 : decode cL_armLength 16 = .ok (.ireturn, 1) := by decide +kernel
theorem dL_stiffness_0 : decode cL_stiffness 0 = .ok (.aload_n 2, 1) := by decide +kernel
theorem dL_stiffness_1 : decode cL_stiffness 1 = .ok (.iconst 0, 1) := by decide +kernel
theorem dL_stiffness_2 : decode cL_stiffness 2 = .ok (.aload_n 0, 1) := by decide +kernel
theorem dL_stiffness_3 : decode cL_stiffness 3 = .ok (.iload_n 1, 1) := by decide +kernel
theorem dL_stiffness_4 : decode cL_stiffness 4 = .ok (.invokevirtual 26, 3) := by decide +kernel
theorem dL_stiffness_7 : decode cL_stiffness 7 = .ok (.i2l, 1) := by decide +kernel
theorem dL_stiffness_8 : decode cL_stiffness 8 = .ok (.lastore, 1) := by decide +kernel
theorem dL_stiffness_9 : decode cL_stiffness 9 = .ok (.goto 6, 3) := by decide +kernel
theorem dL_stiffness_12 : decode cL_stiffness 12 = .ok (.astore_n 3, 1) := by decide +kernel
theorem dL_stiffness_13 : decode cL_stiffness 13 = .ok (.iconst 1, 1) := by decide +kernel
theorem dL_stiffness_14 : decode cL_stiffness 14 = .ok (.ireturn, 1) := by decide +kernel
theorem dL_stiffness_15 : decode cL_stiffness 15 = .ok (.iconst 0, 1) := by decide +kernel
theorem dL_stiffness_16 : decode cL_stiffness 16 = .ok (.ireturn, 1) := by decide +kernel
theorem dL_torque_0 : decode cL_torque 0 = .ok (.aload_n 2, 1) := by decide +kernel
theorem dL_torque_1 : decode cL_torque 1 = .ok (.iconst 0, 1) := by decide +kernel
theorem dL_torque_2 : decode cL_torque 2 = .ok (.aload_n 0, 1) := by decide +kernel
theorem dL_torque_3 : decode cL_torque 3 = .ok (.iload_n 1, 1) := by decide +kernel
theorem dL_torque_4 : decode cL_torque 4 = .ok (.invokevirtual 29, 3) := by decide +kernel
theorem dL_torque_7 : decode cL_torque 7 = .ok (.i2l, 1) := by decide +kernel
theorem dL_torque_8 : decode cL_torque 8 = .ok (.lastore, 1) := by decide +kernel
theorem dL_torque_9 : decode cL_torque 9 = .ok (.goto 6, 3) := by decide +kernel
theorem dL_torque_12 : decode cL_torque 12 = .ok (.astore_n 3, 1) := by decide +kernel
theorem dL_torque_13 : decode cL_torque 13 = .ok (.iconst 1, 1) := by decide +kernel
theorem dL_torque_14 : decode cL_torque 14 = .ok (.ireturn, 1) := by decide +kernel
theorem dL_torque_15 : decode cL_torque 15 = .ok (.iconst 0, 1) := by decide +kernel
theorem dL_torque_16 : decode cL_torque 16 = .ok (.ireturn, 1) := by decide +kernel
theorem dL_tilt_0 : decode cL_tilt 0 = .ok (.aload_n 2, 1) := by decide +kernel
theorem dL_tilt_1 : decode cL_tilt 1 = .ok (.iconst 0, 1) := by decide +kernel
theorem dL_tilt_2 : decode cL_tilt 2 = .ok (.aload_n 0, 1) := by decide +kernel
theorem dL_tilt_3 : decode cL_tilt 3 = .ok (.iload_n 1, 1) := by decide +kernel
theorem dL_tilt_4 : decode cL_tilt 4 = .ok (.invokevirtual 32, 3) := by decide +kernel
theorem dL_tilt_7 : decode cL_tilt 7 = .ok (.i2l, 1) := by decide +kernel
theorem dL_tilt_8 : decode cL_tilt 8 = .ok (.lastore, 1) := by decide +kernel
theorem dL_tilt_9 : decode cL_tilt 9 = .ok (.goto 6, 3) := by decide +kernel
theorem dL_tilt_12 : decode cL_tilt 12 = .ok (.astore_n 3, 1) := by decide +kernel
theorem dL_tilt_13 : decode cL_tilt 13 = .ok (.iconst 1, 1) := by decide +kernel
theorem dL_tilt_14 : decode cL_tilt 14 = .ok (.ireturn, 1) := by decide +kernel
theorem dL_tilt_15 : decode cL_tilt 15 = .ok (.iconst 0, 1) := by decide +kernel
theorem dL_tilt_16 : decode cL_tilt 16 = .ok (.ireturn, 1) := by decide +kernel
theorem dL_isBalanced_0 : decode cL_isBalanced 0 = .ok (.aload_n 2, 1) := by decide +kernel
theorem dL_isBalanced_1 : decode cL_isBalanced 1 = .ok (.iconst 0, 1) := by decide +kernel
theorem dL_isBalanced_2 : decode cL_isBalanced 2 = .ok (.aload_n 0, 1) := by decide +kernel
theorem dL_isBalanced_3 : decode cL_isBalanced 3 = .ok (.iload_n 1, 1) := by decide +kernel
theorem dL_isBalanced_4 : decode cL_isBalanced 4 = .ok (.invokevirtual 35, 3) := by decide +kernel
theorem dL_isBalanced_7 : decode cL_isBalanced 7 = .ok (.ifCond .eq 7, 3) := by decide +kernel
theorem dL_isBalanced_10 : decode cL_isBalanced 10 = .ok (.lconst 1, 1) := by decide +kernel
theorem dL_isBalanced_11 : decode cL_isBalanced 11 = .ok (.goto 4, 3) := by decide +kernel
theorem dL_isBalanced_14 : decode cL_isBalanced 14 = .ok (.lconst 0, 1) := by decide +kernel
theorem dL_isBalanced_15 : decode cL_isBalanced 15 = .ok (.lastore, 1) := by decide +kernel
theorem dL_isBalanced_16 : decode cL_isBalanced 16 = .ok (.goto 6, 3) := by decide +kernel
theorem dL_isBalanced_19 : decode cL_isBalanced 19 = .ok (.astore_n 3, 1) := by decide +kernel
theorem dL_isBalanced_20 : decode cL_isBalanced 20 = .ok (.iconst 1, 1) := by decide +kernel
theorem dL_isBalanced_21 : decode cL_isBalanced 21 = .ok (.ireturn, 1) := by decide +kernel
theorem dL_isBalanced_22 : decode cL_isBalanced 22 = .ok (.iconst 0, 1) := by decide +kernel
theorem dL_isBalanced_23 : decode cL_isBalanced 23 = .ok (.ireturn, 1) := by decide +kernel
theorem dL_seatOwner_0 : decode cL_seatOwner 0 = .ok (.aload_n 3, 1) := by decide +kernel
theorem dL_seatOwner_1 : decode cL_seatOwner 1 = .ok (.iconst 0, 1) := by decide +kernel
theorem dL_seatOwner_2 : decode cL_seatOwner 2 = .ok (.aload_n 0, 1) := by decide +kernel
theorem dL_seatOwner_3 : decode cL_seatOwner 3 = .ok (.iload_n 1, 1) := by decide +kernel
theorem dL_seatOwner_4 : decode cL_seatOwner 4 = .ok (.iload_n 2, 1) := by decide +kernel
theorem dL_seatOwner_5 : decode cL_seatOwner 5 = .ok (.invokevirtual 39, 3) := by decide +kernel
theorem dL_seatOwner_8 : decode cL_seatOwner 8 = .ok (.i2l, 1) := by decide +kernel
theorem dL_seatOwner_9 : decode cL_seatOwner 9 = .ok (.lastore, 1) := by decide +kernel
theorem dL_seatOwner_10 : decode cL_seatOwner 10 = .ok (.goto 7, 3) := by decide +kernel
theorem dL_seatOwner_13 : decode cL_seatOwner 13 = .ok (.astore 4, 2) := by decide +kernel
theorem dL_seatOwner_15 : decode cL_seatOwner 15 = .ok (.iconst 1, 1) := by decide +kernel
theorem dL_seatOwner_16 : decode cL_seatOwner 16 = .ok (.ireturn, 1) := by decide +kernel
theorem dL_seatOwner_17 : decode cL_seatOwner 17 = .ok (.iconst 0, 1) := by decide +kernel
theorem dL_seatOwner_18 : decode cL_seatOwner 18 = .ok (.ireturn, 1) := by decide +kernel
theorem dL_seatHeight_0 : decode cL_seatHeight 0 = .ok (.aload_n 3, 1) := by decide +kernel
theorem dL_seatHeight_1 : decode cL_seatHeight 1 = .ok (.iconst 0, 1) := by decide +kernel
theorem dL_seatHeight_2 : decode cL_seatHeight 2 = .ok (.aload_n 0, 1) := by decide +kernel
theorem dL_seatHeight_3 : decode cL_seatHeight 3 = .ok (.iload_n 1, 1) := by decide +kernel
theorem dL_seatHeight_4 : decode cL_seatHeight 4 = .ok (.iload_n 2, 1) := by decide +kernel
theorem dL_seatHeight_5 : decode cL_seatHeight 5 = .ok (.invokevirtual 43, 3) := by decide +kernel
theorem dL_seatHeight_8 : decode cL_seatHeight 8 = .ok (.i2l, 1) := by decide +kernel
theorem dL_seatHeight_9 : decode cL_seatHeight 9 = .ok (.lastore, 1) := by decide +kernel
theorem dL_seatHeight_10 : decode cL_seatHeight 10 = .ok (.goto 7, 3) := by decide +kernel
theorem dL_seatHeight_13 : decode cL_seatHeight 13 = .ok (.astore 4, 2) := by decide +kernel
theorem dL_seatHeight_15 : decode cL_seatHeight 15 = .ok (.iconst 1, 1) := by decide +kernel
theorem dL_seatHeight_16 : decode cL_seatHeight 16 = .ok (.ireturn, 1) := by decide +kernel
theorem dL_seatHeight_17 : decode cL_seatHeight 17 = .ok (.iconst 0, 1) := by decide +kernel
theorem dL_seatHeight_18 : decode cL_seatHeight 18 = .ok (.ireturn, 1) := by decide +kernel
theorem dL_seatPrice_0 : decode cL_seatPrice 0 = .ok (.aload_n 3, 1) := by decide +kernel
theorem dL_seatPrice_1 : decode cL_seatPrice 1 = .ok (.iconst 0, 1) := by decide +kernel
theorem dL_seatPrice_2 : decode cL_seatPrice 2 = .ok (.aload_n 0, 1) := by decide +kernel
theorem dL_seatPrice_3 : decode cL_seatPrice 3 = .ok (.iload_n 1, 1) := by decide +kernel
theorem dL_seatPrice_4 : decode cL_seatPrice 4 = .ok (.iload_n 2, 1) := by decide +kernel
theorem dL_seatPrice_5 : decode cL_seatPrice 5 = .ok (.invokevirtual 46, 3) := by decide +kernel
theorem dL_seatPrice_8 : decode cL_seatPrice 8 = .ok (.i2l, 1) := by decide +kernel
theorem dL_seatPrice_9 : decode cL_seatPrice 9 = .ok (.lastore, 1) := by decide +kernel
theorem dL_seatPrice_10 : decode cL_seatPrice 10 = .ok (.goto 7, 3) := by decide +kernel
theorem dL_seatPrice_13 : decode cL_seatPrice 13 = .ok (.astore 4, 2) := by decide +kernel
theorem dL_seatPrice_15 : decode cL_seatPrice 15 = .ok (.iconst 1, 1) := by decide +kernel
theorem dL_seatPrice_16 : decode cL_seatPrice 16 = .ok (.ireturn, 1) := by decide +kernel
theorem dL_seatPrice_17 : decode cL_seatPrice 17 = .ok (.iconst 0, 1) := by decide +kernel
theorem dL_seatPrice_18 : decode cL_seatPrice 18 = .ok (.ireturn, 1) := by decide +kernel
theorem dL_balancingSeat_0 : decode cL_balancingSeat 0 = .ok (.aload_n 3, 1) := by decide +kernel
theorem dL_balancingSeat_1 : decode cL_balancingSeat 1 = .ok (.iconst 0, 1) := by decide +kernel
theorem dL_balancingSeat_2 : decode cL_balancingSeat 2 = .ok (.aload_n 0, 1) := by decide +kernel
theorem dL_balancingSeat_3 : decode cL_balancingSeat 3 = .ok (.iload_n 1, 1) := by decide +kernel
theorem dL_balancingSeat_4 : decode cL_balancingSeat 4 = .ok (.iload_n 2, 1) := by decide +kernel
theorem dL_balancingSeat_5 : decode cL_balancingSeat 5 = .ok (.invokevirtual 49, 3) := by decide +kernel
theorem dL_balancingSeat_8 : decode cL_balancingSeat 8 = .ok (.i2l, 1) := by decide +kernel
theorem dL_balancingSeat_9 : decode cL_balancingSeat 9 = .ok (.lastore, 1) := by decide +kernel
theorem dL_balancingSeat_10 : decode cL_balancingSeat 10 = .ok (.goto 11, 3) := by decide +kernel
theorem dL_balancingSeat_13 : decode cL_balancingSeat 13 = .ok (.astore 4, 2) := by decide +kernel
theorem dL_balancingSeat_15 : decode cL_balancingSeat 15 = .ok (.iconst 1, 1) := by decide +kernel
theorem dL_balancingSeat_16 : decode cL_balancingSeat 16 = .ok (.ireturn, 1) := by decide +kernel
theorem dL_balancingSeat_17 : decode cL_balancingSeat 17 = .ok (.astore 4, 2) := by decide +kernel
theorem dL_balancingSeat_19 : decode cL_balancingSeat 19 = .ok (.iconst 2, 1) := by decide +kernel
theorem dL_balancingSeat_20 : decode cL_balancingSeat 20 = .ok (.ireturn, 1) := by decide +kernel
theorem dL_balancingSeat_21 : decode cL_balancingSeat 21 = .ok (.iconst 0, 1) := by decide +kernel
theorem dL_balancingSeat_22 : decode cL_balancingSeat 22 = .ok (.ireturn, 1) := by decide +kernel
theorem dL_nameLetter_0 : decode cL_nameLetter 0 = .ok (.aload_n 3, 1) := by decide +kernel
theorem dL_nameLetter_1 : decode cL_nameLetter 1 = .ok (.iconst 0, 1) := by decide +kernel
theorem dL_nameLetter_2 : decode cL_nameLetter 2 = .ok (.aload_n 0, 1) := by decide +kernel
theorem dL_nameLetter_3 : decode cL_nameLetter 3 = .ok (.iload_n 1, 1) := by decide +kernel
theorem dL_nameLetter_4 : decode cL_nameLetter 4 = .ok (.iload_n 2, 1) := by decide +kernel
theorem dL_nameLetter_5 : decode cL_nameLetter 5 = .ok (.invokevirtual 52, 3) := by decide +kernel
theorem dL_nameLetter_8 : decode cL_nameLetter 8 = .ok (.i2l, 1) := by decide +kernel
theorem dL_nameLetter_9 : decode cL_nameLetter 9 = .ok (.lastore, 1) := by decide +kernel
theorem dL_nameLetter_10 : decode cL_nameLetter 10 = .ok (.goto 7, 3) := by decide +kernel
theorem dL_nameLetter_13 : decode cL_nameLetter 13 = .ok (.astore 4, 2) := by decide +kernel
theorem dL_nameLetter_15 : decode cL_nameLetter 15 = .ok (.iconst 1, 1) := by decide +kernel
theorem dL_nameLetter_16 : decode cL_nameLetter 16 = .ok (.ireturn, 1) := by decide +kernel
theorem dL_nameLetter_17 : decode cL_nameLetter 17 = .ok (.iconst 0, 1) := by decide +kernel
theorem dL_nameLetter_18 : decode cL_nameLetter 18 = .ok (.ireturn, 1) := by decide +kernel
theorem dL_weightOf_0 : decode cL_weightOf 0 = .ok (.aload_n 2, 1) := by decide +kernel
theorem dL_weightOf_1 : decode cL_weightOf 1 = .ok (.iconst 0, 1) := by decide +kernel
theorem dL_weightOf_2 : decode cL_weightOf 2 = .ok (.aload_n 0, 1) := by decide +kernel
theorem dL_weightOf_3 : decode cL_weightOf 3 = .ok (.iload_n 1, 1) := by decide +kernel
theorem dL_weightOf_4 : decode cL_weightOf 4 = .ok (.invokevirtual 55, 3) := by decide +kernel
theorem dL_weightOf_7 : decode cL_weightOf 7 = .ok (.i2l, 1) := by decide +kernel
theorem dL_weightOf_8 : decode cL_weightOf 8 = .ok (.lastore, 1) := by decide +kernel
theorem dL_weightOf_9 : decode cL_weightOf 9 = .ok (.goto 6, 3) := by decide +kernel
theorem dL_weightOf_12 : decode cL_weightOf 12 = .ok (.astore_n 3, 1) := by decide +kernel
theorem dL_weightOf_13 : decode cL_weightOf 13 = .ok (.iconst 1, 1) := by decide +kernel
theorem dL_weightOf_14 : decode cL_weightOf 14 = .ok (.ireturn, 1) := by decide +kernel
theorem dL_weightOf_15 : decode cL_weightOf 15 = .ok (.iconst 0, 1) := by decide +kernel
theorem dL_weightOf_16 : decode cL_weightOf 16 = .ok (.ireturn, 1) := by decide +kernel
theorem dL_purseOf_0 : decode cL_purseOf 0 = .ok (.aload_n 2, 1) := by decide +kernel
theorem dL_purseOf_1 : decode cL_purseOf 1 = .ok (.iconst 0, 1) := by decide +kernel
theorem dL_purseOf_2 : decode cL_purseOf 2 = .ok (.aload_n 0, 1) := by decide +kernel
theorem dL_purseOf_3 : decode cL_purseOf 3 = .ok (.iload_n 1, 1) := by decide +kernel
theorem dL_purseOf_4 : decode cL_purseOf 4 = .ok (.invokevirtual 58, 3) := by decide +kernel
theorem dL_purseOf_7 : decode cL_purseOf 7 = .ok (.i2l, 1) := by decide +kernel
theorem dL_purseOf_8 : decode cL_purseOf 8 = .ok (.lastore, 1) := by decide +kernel
theorem dL_purseOf_9 : decode cL_purseOf 9 = .ok (.goto 6, 3) := by decide +kernel
theorem dL_purseOf_12 : decode cL_purseOf 12 = .ok (.astore_n 3, 1) := by decide +kernel
theorem dL_purseOf_13 : decode cL_purseOf 13 = .ok (.iconst 1, 1) := by decide +kernel
theorem dL_purseOf_14 : decode cL_purseOf 14 = .ok (.ireturn, 1) := by decide +kernel
theorem dL_purseOf_15 : decode cL_purseOf 15 = .ok (.iconst 0, 1) := by decide +kernel
theorem dL_purseOf_16 : decode cL_purseOf 16 = .ok (.ireturn, 1) := by decide +kernel
theorem dL_ageOf_0 : decode cL_ageOf 0 = .ok (.aload_n 2, 1) := by decide +kernel
theorem dL_ageOf_1 : decode cL_ageOf 1 = .ok (.iconst 0, 1) := by decide +kernel
theorem dL_ageOf_2 : decode cL_ageOf 2 = .ok (.aload_n 0, 1) := by decide +kernel
theorem dL_ageOf_3 : decode cL_ageOf 3 = .ok (.iload_n 1, 1) := by decide +kernel
theorem dL_ageOf_4 : decode cL_ageOf 4 = .ok (.invokevirtual 61, 3) := by decide +kernel
theorem dL_ageOf_7 : decode cL_ageOf 7 = .ok (.i2l, 1) := by decide +kernel
theorem dL_ageOf_8 : decode cL_ageOf 8 = .ok (.lastore, 1) := by decide +kernel
theorem dL_ageOf_9 : decode cL_ageOf 9 = .ok (.goto 6, 3) := by decide +kernel
theorem dL_ageOf_12 : decode cL_ageOf 12 = .ok (.astore_n 3, 1) := by decide +kernel
theorem dL_ageOf_13 : decode cL_ageOf 13 = .ok (.iconst 1, 1) := by decide +kernel
theorem dL_ageOf_14 : decode cL_ageOf 14 = .ok (.ireturn, 1) := by decide +kernel
theorem dL_ageOf_15 : decode cL_ageOf 15 = .ok (.iconst 0, 1) := by decide +kernel
theorem dL_ageOf_16 : decode cL_ageOf 16 = .ok (.ireturn, 1) := by decide +kernel
theorem dL_isPresent_0 : decode cL_isPresent 0 = .ok (.aload_n 2, 1) := by decide +kernel
theorem dL_isPresent_1 : decode cL_isPresent 1 = .ok (.iconst 0, 1) := by decide +kernel
theorem dL_isPresent_2 : decode cL_isPresent 2 = .ok (.aload_n 0, 1) := by decide +kernel
theorem dL_isPresent_3 : decode cL_isPresent 3 = .ok (.iload_n 1, 1) := by decide +kernel
theorem dL_isPresent_4 : decode cL_isPresent 4 = .ok (.invokevirtual 64, 3) := by decide +kernel
theorem dL_isPresent_7 : decode cL_isPresent 7 = .ok (.ifCond .eq 7, 3) := by decide +kernel
theorem dL_isPresent_10 : decode cL_isPresent 10 = .ok (.lconst 1, 1) := by decide +kernel
theorem dL_isPresent_11 : decode cL_isPresent 11 = .ok (.goto 4, 3) := by decide +kernel
theorem dL_isPresent_14 : decode cL_isPresent 14 = .ok (.lconst 0, 1) := by decide +kernel
theorem dL_isPresent_15 : decode cL_isPresent 15 = .ok (.lastore, 1) := by decide +kernel
theorem dL_isPresent_16 : decode cL_isPresent 16 = .ok (.goto 6, 3) := by decide +kernel
theorem dL_isPresent_19 : decode cL_isPresent 19 = .ok (.astore_n 3, 1) := by decide +kernel
theorem dL_isPresent_20 : decode cL_isPresent 20 = .ok (.iconst 1, 1) := by decide +kernel
theorem dL_isPresent_21 : decode cL_isPresent 21 = .ok (.ireturn, 1) := by decide +kernel
theorem dL_isPresent_22 : decode cL_isPresent 22 = .ok (.iconst 0, 1) := by decide +kernel
theorem dL_isPresent_23 : decode cL_isPresent 23 = .ok (.ireturn, 1) := by decide +kernel
theorem dL_boardOf_0 : decode cL_boardOf 0 = .ok (.aload_n 2, 1) := by decide +kernel
theorem dL_boardOf_1 : decode cL_boardOf 1 = .ok (.iconst 0, 1) := by decide +kernel
theorem dL_boardOf_2 : decode cL_boardOf 2 = .ok (.aload_n 0, 1) := by decide +kernel
theorem dL_boardOf_3 : decode cL_boardOf 3 = .ok (.iload_n 1, 1) := by decide +kernel
theorem dL_boardOf_4 : decode cL_boardOf 4 = .ok (.invokevirtual 67, 3) := by decide +kernel
theorem dL_boardOf_7 : decode cL_boardOf 7 = .ok (.i2l, 1) := by decide +kernel
theorem dL_boardOf_8 : decode cL_boardOf 8 = .ok (.lastore, 1) := by decide +kernel
theorem dL_boardOf_9 : decode cL_boardOf 9 = .ok (.goto 6, 3) := by decide +kernel
theorem dL_boardOf_12 : decode cL_boardOf 12 = .ok (.astore_n 3, 1) := by decide +kernel
theorem dL_boardOf_13 : decode cL_boardOf 13 = .ok (.iconst 1, 1) := by decide +kernel
theorem dL_boardOf_14 : decode cL_boardOf 14 = .ok (.ireturn, 1) := by decide +kernel
theorem dL_boardOf_15 : decode cL_boardOf 15 = .ok (.iconst 0, 1) := by decide +kernel
theorem dL_boardOf_16 : decode cL_boardOf 16 = .ok (.ireturn, 1) := by decide +kernel
theorem dL_positionOf_0 : decode cL_positionOf 0 = .ok (.aload_n 2, 1) := by decide +kernel
theorem dL_positionOf_1 : decode cL_positionOf 1 = .ok (.iconst 0, 1) := by decide +kernel
theorem dL_positionOf_2 : decode cL_positionOf 2 = .ok (.aload_n 0, 1) := by decide +kernel
theorem dL_positionOf_3 : decode cL_positionOf 3 = .ok (.iload_n 1, 1) := by decide +kernel
theorem dL_positionOf_4 : decode cL_positionOf 4 = .ok (.invokevirtual 70, 3) := by decide +kernel
theorem dL_positionOf_7 : decode cL_positionOf 7 = .ok (.i2l, 1) := by decide +kernel
theorem dL_positionOf_8 : decode cL_positionOf 8 = .ok (.lastore, 1) := by decide +kernel
theorem dL_positionOf_9 : decode cL_positionOf 9 = .ok (.goto 6, 3) := by decide +kernel
theorem dL_positionOf_12 : decode cL_positionOf 12 = .ok (.astore_n 3, 1) := by decide +kernel
theorem dL_positionOf_13 : decode cL_positionOf 13 = .ok (.iconst 1, 1) := by decide +kernel
theorem dL_positionOf_14 : decode cL_positionOf 14 = .ok (.ireturn, 1) := by decide +kernel
theorem dL_positionOf_15 : decode cL_positionOf 15 = .ok (.iconst 0, 1) := by decide +kernel
theorem dL_positionOf_16 : decode cL_positionOf 16 = .ok (.ireturn, 1) := by decide +kernel
theorem dL_incomeOf_0 : decode cL_incomeOf 0 = .ok (.aload_n 2, 1) := by decide +kernel
theorem dL_incomeOf_1 : decode cL_incomeOf 1 = .ok (.iconst 0, 1) := by decide +kernel
theorem dL_incomeOf_2 : decode cL_incomeOf 2 = .ok (.aload_n 0, 1) := by decide +kernel
theorem dL_incomeOf_3 : decode cL_incomeOf 3 = .ok (.iload_n 1, 1) := by decide +kernel
theorem dL_incomeOf_4 : decode cL_incomeOf 4 = .ok (.invokevirtual 73, 3) := by decide +kernel
theorem dL_incomeOf_7 : decode cL_incomeOf 7 = .ok (.i2l, 1) := by decide +kernel
theorem dL_incomeOf_8 : decode cL_incomeOf 8 = .ok (.lastore, 1) := by decide +kernel
theorem dL_incomeOf_9 : decode cL_incomeOf 9 = .ok (.goto 6, 3) := by decide +kernel
theorem dL_incomeOf_12 : decode cL_incomeOf 12 = .ok (.astore_n 3, 1) := by decide +kernel
theorem dL_incomeOf_13 : decode cL_incomeOf 13 = .ok (.iconst 1, 1) := by decide +kernel
theorem dL_incomeOf_14 : decode cL_incomeOf 14 = .ok (.ireturn, 1) := by decide +kernel
theorem dL_incomeOf_15 : decode cL_incomeOf 15 = .ok (.iconst 0, 1) := by decide +kernel
theorem dL_incomeOf_16 : decode cL_incomeOf 16 = .ok (.ireturn, 1) := by decide +kernel
theorem dL_reasonAgainstSeat_0 : decode cL_reasonAgainstSeat 0 = .ok (.aload 4, 2) := by decide +kernel
theorem dL_reasonAgainstSeat_2 : decode cL_reasonAgainstSeat 2 = .ok (.iconst 0, 1) := by decide +kernel
theorem dL_reasonAgainstSeat_3 : decode cL_reasonAgainstSeat 3 = .ok (.aload_n 0, 1) := by decide +kernel
theorem dL_reasonAgainstSeat_4 : decode cL_reasonAgainstSeat 4 = .ok (.iload_n 1, 1) := by decide +kernel
theorem dL_reasonAgainstSeat_5 : decode cL_reasonAgainstSeat 5 = .ok (.iload_n 2, 1) := by decide +kernel
theorem dL_reasonAgainstSeat_6 : decode cL_reasonAgainstSeat 6 = .ok (.iload_n 3, 1) := by decide +kernel
theorem dL_reasonAgainstSeat_7 : decode cL_reasonAgainstSeat 7 = .ok (.invokevirtual 76, 3) := by decide +kernel
theorem dL_reasonAgainstSeat_10 : decode cL_reasonAgainstSeat 10 = .ok (.i2l, 1) := by decide +kernel
theorem dL_reasonAgainstSeat_11 : decode cL_reasonAgainstSeat 11 = .ok (.lastore, 1) := by decide +kernel
theorem dL_reasonAgainstSeat_12 : decode cL_reasonAgainstSeat 12 = .ok (.goto 7, 3) := by decide +kernel
theorem dL_reasonAgainstSeat_15 : decode cL_reasonAgainstSeat 15 = .ok (.astore 5, 2) := by decide +kernel
theorem dL_reasonAgainstSeat_17 : decode cL_reasonAgainstSeat 17 = .ok (.iconst 1, 1) := by decide +kernel
theorem dL_reasonAgainstSeat_18 : decode cL_reasonAgainstSeat 18 = .ok (.ireturn, 1) := by decide +kernel
theorem dL_reasonAgainstSeat_19 : decode cL_reasonAgainstSeat 19 = .ok (.iconst 0, 1) := by decide +kernel
theorem dL_reasonAgainstSeat_20 : decode cL_reasonAgainstSeat 20 = .ok (.ireturn, 1) := by decide +kernel
theorem dL_reasonAgainstSale_0 : decode cL_reasonAgainstSale 0 = .ok (.aload 4, 2) := by decide +kernel
theorem dL_reasonAgainstSale_2 : decode cL_reasonAgainstSale 2 = .ok (.iconst 0, 1) := by decide +kernel
theorem dL_reasonAgainstSale_3 : decode cL_reasonAgainstSale 3 = .ok (.aload_n 0, 1) := by decide +kernel
theorem dL_reasonAgainstSale_4 : decode cL_reasonAgainstSale 4 = .ok (.iload_n 1, 1) := by decide +kernel
theorem dL_reasonAgainstSale_5 : decode cL_reasonAgainstSale 5 = .ok (.iload_n 2, 1) := by decide +kernel
theorem dL_reasonAgainstSale_6 : decode cL_reasonAgainstSale 6 = .ok (.iload_n 3, 1) := by decide +kernel
theorem dL_reasonAgainstSale_7 : decode cL_reasonAgainstSale 7 = .ok (.invokevirtual 80, 3) := by decide +kernel
theorem dL_reasonAgainstSale_10 : decode cL_reasonAgainstSale 10 = .ok (.i2l, 1) := by decide +kernel
theorem dL_reasonAgainstSale_11 : decode cL_reasonAgainstSale 11 = .ok (.lastore, 1) := by decide +kernel
theorem dL_reasonAgainstSale_12 : decode cL_reasonAgainstSale 12 = .ok (.goto 11, 3) := by decide +kernel
theorem dL_reasonAgainstSale_15 : decode cL_reasonAgainstSale 15 = .ok (.astore 5, 2) := by decide +kernel
theorem dL_reasonAgainstSale_17 : decode cL_reasonAgainstSale 17 = .ok (.iconst 1, 1) := by decide +kernel
theorem dL_reasonAgainstSale_18 : decode cL_reasonAgainstSale 18 = .ok (.ireturn, 1) := by decide +kernel
theorem dL_reasonAgainstSale_19 : decode cL_reasonAgainstSale 19 = .ok (.astore 5, 2) := by decide +kernel
theorem dL_reasonAgainstSale_21 : decode cL_reasonAgainstSale 21 = .ok (.iconst 2, 1) := by decide +kernel
theorem dL_reasonAgainstSale_22 : decode cL_reasonAgainstSale 22 = .ok (.ireturn, 1) := by decide +kernel
theorem dL_reasonAgainstSale_23 : decode cL_reasonAgainstSale 23 = .ok (.iconst 0, 1) := by decide +kernel
theorem dL_reasonAgainstSale_24 : decode cL_reasonAgainstSale 24 = .ok (.ireturn, 1) := by decide +kernel
theorem dL_reasonAgainstSwap_0 : decode cL_reasonAgainstSwap 0 = .ok (.aload_n 3, 1) := by decide +kernel
theorem dL_reasonAgainstSwap_1 : decode cL_reasonAgainstSwap 1 = .ok (.iconst 0, 1) := by decide +kernel
theorem dL_reasonAgainstSwap_2 : decode cL_reasonAgainstSwap 2 = .ok (.aload_n 0, 1) := by decide +kernel
theorem dL_reasonAgainstSwap_3 : decode cL_reasonAgainstSwap 3 = .ok (.iload_n 1, 1) := by decide +kernel
theorem dL_reasonAgainstSwap_4 : decode cL_reasonAgainstSwap 4 = .ok (.iload_n 2, 1) := by decide +kernel
theorem dL_reasonAgainstSwap_5 : decode cL_reasonAgainstSwap 5 = .ok (.invokevirtual 83, 3) := by decide +kernel
theorem dL_reasonAgainstSwap_8 : decode cL_reasonAgainstSwap 8 = .ok (.i2l, 1) := by decide +kernel
theorem dL_reasonAgainstSwap_9 : decode cL_reasonAgainstSwap 9 = .ok (.lastore, 1) := by decide +kernel
theorem dL_reasonAgainstSwap_10 : decode cL_reasonAgainstSwap 10 = .ok (.goto 11, 3) := by decide +kernel
theorem dL_reasonAgainstSwap_13 : decode cL_reasonAgainstSwap 13 = .ok (.astore 4, 2) := by decide +kernel
theorem dL_reasonAgainstSwap_15 : decode cL_reasonAgainstSwap 15 = .ok (.iconst 1, 1) := by decide +kernel
theorem dL_reasonAgainstSwap_16 : decode cL_reasonAgainstSwap 16 = .ok (.ireturn, 1) := by decide +kernel
theorem dL_reasonAgainstSwap_17 : decode cL_reasonAgainstSwap 17 = .ok (.astore 4, 2) := by decide +kernel
theorem dL_reasonAgainstSwap_19 : decode cL_reasonAgainstSwap 19 = .ok (.iconst 2, 1) := by decide +kernel
theorem dL_reasonAgainstSwap_20 : decode cL_reasonAgainstSwap 20 = .ok (.ireturn, 1) := by decide +kernel
theorem dL_reasonAgainstSwap_21 : decode cL_reasonAgainstSwap 21 = .ok (.iconst 0, 1) := by decide +kernel
theorem dL_reasonAgainstSwap_22 : decode cL_reasonAgainstSwap 22 = .ok (.ireturn, 1) := by decide +kernel
theorem dL_weightUnitPrice_0 : decode cL_weightUnitPrice 0 = .ok (.aload_n 3, 1) := by decide +kernel
theorem dL_weightUnitPrice_1 : decode cL_weightUnitPrice 1 = .ok (.iconst 0, 1) := by decide +kernel
theorem dL_weightUnitPrice_2 : decode cL_weightUnitPrice 2 = .ok (.aload_n 0, 1) := by decide +kernel
theorem dL_weightUnitPrice_3 : decode cL_weightUnitPrice 3 = .ok (.iload_n 1, 1) := by decide +kernel
theorem dL_weightUnitPrice_4 : decode cL_weightUnitPrice 4 = .ok (.iload_n 2, 1) := by decide +kernel
theorem dL_weightUnitPrice_5 : decode cL_weightUnitPrice 5 = .ok (.invokevirtual 86, 3) := by decide +kernel
theorem dL_weightUnitPrice_8 : decode cL_weightUnitPrice 8 = .ok (.i2l, 1) := by decide +kernel
theorem dL_weightUnitPrice_9 : decode cL_weightUnitPrice 9 = .ok (.lastore, 1) := by decide +kernel
theorem dL_weightUnitPrice_10 : decode cL_weightUnitPrice 10 = .ok (.goto 11, 3) := by decide +kernel
theorem dL_weightUnitPrice_13 : decode cL_weightUnitPrice 13 = .ok (.astore 4, 2) := by decide +kernel
theorem dL_weightUnitPrice_15 : decode cL_weightUnitPrice 15 = .ok (.iconst 1, 1) := by decide +kernel
theorem dL_weightUnitPrice_16 : decode cL_weightUnitPrice 16 = .ok (.ireturn, 1) := by decide +kernel
theorem dL_weightUnitPrice_17 : decode cL_weightUnitPrice 17 = .ok (.astore 4, 2) := by decide +kernel
theorem dL_weightUnitPrice_19 : decode cL_weightUnitPrice 19 = .ok (.iconst 2, 1) := by decide +kernel
theorem dL_weightUnitPrice_20 : decode cL_weightUnitPrice 20 = .ok (.ireturn, 1) := by decide +kernel
theorem dL_weightUnitPrice_21 : decode cL_weightUnitPrice 21 = .ok (.iconst 0, 1) := by decide +kernel
theorem dL_weightUnitPrice_22 : decode cL_weightUnitPrice 22 = .ok (.ireturn, 1) := by decide +kernel
theorem dL_bestSeat_0 : decode cL_bestSeat 0 = .ok (.aload_n 3, 1) := by decide +kernel
theorem dL_bestSeat_1 : decode cL_bestSeat 1 = .ok (.iconst 0, 1) := by decide +kernel
theorem dL_bestSeat_2 : decode cL_bestSeat 2 = .ok (.aload_n 0, 1) := by decide +kernel
theorem dL_bestSeat_3 : decode cL_bestSeat 3 = .ok (.iload_n 1, 1) := by decide +kernel
theorem dL_bestSeat_4 : decode cL_bestSeat 4 = .ok (.iload_n 2, 1) := by decide +kernel
theorem dL_bestSeat_5 : decode cL_bestSeat 5 = .ok (.invokevirtual 89, 3) := by decide +kernel
theorem dL_bestSeat_8 : decode cL_bestSeat 8 = .ok (.i2l, 1) := by decide +kernel
theorem dL_bestSeat_9 : decode cL_bestSeat 9 = .ok (.lastore, 1) := by decide +kernel
theorem dL_bestSeat_10 : decode cL_bestSeat 10 = .ok (.goto 7, 3) := by decide +kernel
theorem dL_bestSeat_13 : decode cL_bestSeat 13 = .ok (.astore 4, 2) := by decide +kernel
theorem dL_bestSeat_15 : decode cL_bestSeat 15 = .ok (.iconst 1, 1) := by decide +kernel
theorem dL_bestSeat_16 : decode cL_bestSeat 16 = .ok (.ireturn, 1) := by decide +kernel
theorem dL_bestSeat_17 : decode cL_bestSeat 17 = .ok (.iconst 0, 1) := by decide +kernel
theorem dL_bestSeat_18 : decode cL_bestSeat 18 = .ok (.ireturn, 1) := by decide +kernel
theorem dL_purseAfter_0 : decode cL_purseAfter 0 = .ok (.aload_n 3, 1) := by decide +kernel
theorem dL_purseAfter_1 : decode cL_purseAfter 1 = .ok (.iconst 0, 1) := by decide +kernel
theorem dL_purseAfter_2 : decode cL_purseAfter 2 = .ok (.aload_n 0, 1) := by decide +kernel
theorem dL_purseAfter_3 : decode cL_purseAfter 3 = .ok (.iload_n 1, 1) := by decide +kernel
theorem dL_purseAfter_4 : decode cL_purseAfter 4 = .ok (.iload_n 2, 1) := by decide +kernel
theorem dL_purseAfter_5 : decode cL_purseAfter 5 = .ok (.invokevirtual 92, 3) := by decide +kernel
theorem dL_purseAfter_8 : decode cL_purseAfter 8 = .ok (.i2l, 1) := by decide +kernel
theorem dL_purseAfter_9 : decode cL_purseAfter 9 = .ok (.lastore, 1) := by decide +kernel
theorem dL_purseAfter_10 : decode cL_purseAfter 10 = .ok (.goto 11, 3) := by decide +kernel
theorem dL_purseAfter_13 : decode cL_purseAfter 13 = .ok (.astore 4, 2) := by decide +kernel
theorem dL_purseAfter_15 : decode cL_purseAfter 15 = .ok (.iconst 1, 1) := by decide +kernel
theorem dL_purseAfter_16 : decode cL_purseAfter 16 = .ok (.ireturn, 1) := by decide +kernel
theorem dL_purseAfter_17 : decode cL_purseAfter 17 = .ok (.astore 4, 2) := by decide +kernel
theorem dL_purseAfter_19 : decode cL_purseAfter 19 = .ok (.iconst 2, 1) := by decide +kernel
theorem dL_purseAfter_20 : decode cL_purseAfter 20 = .ok (.ireturn, 1) := by decide +kernel
theorem dL_purseAfter_21 : decode cL_purseAfter 21 = .ok (.iconst 0, 1) := by decide +kernel
theorem dL_purseAfter_22 : decode cL_purseAfter 22 = .ok (.ireturn, 1) := by decide +kernel
theorem dL_bankAfter_0 : decode cL_bankAfter 0 = .ok (.aload_n 2, 1) := by decide +kernel
theorem dL_bankAfter_1 : decode cL_bankAfter 1 = .ok (.iconst 0, 1) := by decide +kernel
theorem dL_bankAfter_2 : decode cL_bankAfter 2 = .ok (.aload_n 0, 1) := by decide +kernel
theorem dL_bankAfter_3 : decode cL_bankAfter 3 = .ok (.iload_n 1, 1) := by decide +kernel
theorem dL_bankAfter_4 : decode cL_bankAfter 4 = .ok (.invokevirtual 95, 3) := by decide +kernel
theorem dL_bankAfter_7 : decode cL_bankAfter 7 = .ok (.i2l, 1) := by decide +kernel
theorem dL_bankAfter_8 : decode cL_bankAfter 8 = .ok (.lastore, 1) := by decide +kernel
theorem dL_bankAfter_9 : decode cL_bankAfter 9 = .ok (.goto 6, 3) := by decide +kernel
theorem dL_bankAfter_12 : decode cL_bankAfter 12 = .ok (.astore_n 3, 1) := by decide +kernel
theorem dL_bankAfter_13 : decode cL_bankAfter 13 = .ok (.iconst 1, 1) := by decide +kernel
theorem dL_bankAfter_14 : decode cL_bankAfter 14 = .ok (.ireturn, 1) := by decide +kernel
theorem dL_bankAfter_15 : decode cL_bankAfter 15 = .ok (.iconst 0, 1) := by decide +kernel
theorem dL_bankAfter_16 : decode cL_bankAfter 16 = .ok (.ireturn, 1) := by decide +kernel
theorem dL_daysUntilFall_0 : decode cL_daysUntilFall 0 = .ok (.aload_n 2, 1) := by decide +kernel
theorem dL_daysUntilFall_1 : decode cL_daysUntilFall 1 = .ok (.iconst 0, 1) := by decide +kernel
theorem dL_daysUntilFall_2 : decode cL_daysUntilFall 2 = .ok (.aload_n 0, 1) := by decide +kernel
theorem dL_daysUntilFall_3 : decode cL_daysUntilFall 3 = .ok (.iload_n 1, 1) := by decide +kernel
theorem dL_daysUntilFall_4 : decode cL_daysUntilFall 4 = .ok (.invokevirtual 98, 3) := by decide +kernel
theorem dL_daysUntilFall_7 : decode cL_daysUntilFall 7 = .ok (.i2l, 1) := by decide +kernel
theorem dL_daysUntilFall_8 : decode cL_daysUntilFall 8 = .ok (.lastore, 1) := by decide +kernel
theorem dL_daysUntilFall_9 : decode cL_daysUntilFall 9 = .ok (.goto 6, 3) := by decide +kernel
theorem dL_daysUntilFall_12 : decode cL_daysUntilFall 12 = .ok (.astore_n 3, 1) := by decide +kernel
theorem dL_daysUntilFall_13 : decode cL_daysUntilFall 13 = .ok (.iconst 1, 1) := by decide +kernel
theorem dL_daysUntilFall_14 : decode cL_daysUntilFall 14 = .ok (.ireturn, 1) := by decide +kernel
theorem dL_daysUntilFall_15 : decode cL_daysUntilFall 15 = .ok (.iconst 0, 1) := by decide +kernel
theorem dL_daysUntilFall_16 : decode cL_daysUntilFall 16 = .ok (.ireturn, 1) := by decide +kernel
theorem dL_daysUntilRetirement_0 : decode cL_daysUntilRetirement 0 = .ok (.aload_n 2, 1) := by decide +kernel
theorem dL_daysUntilRetirement_1 : decode cL_daysUntilRetirement 1 = .ok (.iconst 0, 1) := by decide +kernel
theorem dL_daysUntilRetirement_2 : decode cL_daysUntilRetirement 2 = .ok (.aload_n 0, 1) := by decide +kernel
theorem dL_daysUntilRetirement_3 : decode cL_daysUntilRetirement 3 = .ok (.iload_n 1, 1) := by decide +kernel
theorem dL_daysUntilRetirement_4 : decode cL_daysUntilRetirement 4 = .ok (.invokevirtual 101, 3) := by decide +kernel
theorem dL_daysUntilRetirement_7 : decode cL_daysUntilRetirement 7 = .ok (.i2l, 1) := by decide +kernel
theorem dL_daysUntilRetirement_8 : decode cL_daysUntilRetirement 8 = .ok (.lastore, 1) := by decide +kernel
theorem dL_daysUntilRetirement_9 : decode cL_daysUntilRetirement 9 = .ok (.goto 6, 3) := by decide +kernel
theorem dL_daysUntilRetirement_12 : decode cL_daysUntilRetirement 12 = .ok (.astore_n 3, 1) := by decide +kernel
theorem dL_daysUntilRetirement_13 : decode cL_daysUntilRetirement 13 = .ok (.iconst 1, 1) := by decide +kernel
theorem dL_daysUntilRetirement_14 : decode cL_daysUntilRetirement 14 = .ok (.ireturn, 1) := by decide +kernel
theorem dL_daysUntilRetirement_15 : decode cL_daysUntilRetirement 15 = .ok (.iconst 0, 1) := by decide +kernel
theorem dL_daysUntilRetirement_16 : decode cL_daysUntilRetirement 16 = .ok (.ireturn, 1) := by decide +kernel
theorem dL_join_0 : decode cL_join 0 = .ok (.aload_n 3, 1) := by decide +kernel
theorem dL_join_1 : decode cL_join 1 = .ok (.iconst 0, 1) := by decide +kernel
theorem dL_join_2 : decode cL_join 2 = .ok (.aload_n 0, 1) := by decide +kernel
theorem dL_join_3 : decode cL_join 3 = .ok (.iload_n 1, 1) := by decide +kernel
theorem dL_join_4 : decode cL_join 4 = .ok (.iload_n 2, 1) := by decide +kernel
theorem dL_join_5 : decode cL_join 5 = .ok (.invokevirtual 104, 3) := by decide +kernel
theorem dL_join_8 : decode cL_join 8 = .ok (.i2l, 1) := by decide +kernel
theorem dL_join_9 : decode cL_join 9 = .ok (.lastore, 1) := by decide +kernel
theorem dL_join_10 : decode cL_join 10 = .ok (.goto 11, 3) := by decide +kernel
theorem dL_join_13 : decode cL_join 13 = .ok (.astore 4, 2) := by decide +kernel
theorem dL_join_15 : decode cL_join 15 = .ok (.iconst 1, 1) := by decide +kernel
theorem dL_join_16 : decode cL_join 16 = .ok (.ireturn, 1) := by decide +kernel
theorem dL_join_17 : decode cL_join 17 = .ok (.astore 4, 2) := by decide +kernel
theorem dL_join_19 : decode cL_join 19 = .ok (.iconst 2, 1) := by decide +kernel
theorem dL_join_20 : decode cL_join 20 = .ok (.ireturn, 1) := by decide +kernel
theorem dL_join_21 : decode cL_join 21 = .ok (.iconst 0, 1) := by decide +kernel
theorem dL_join_22 : decode cL_join 22 = .ok (.ireturn, 1) := by decide +kernel
theorem dL_buySeat_0 : decode cL_buySeat 0 = .ok (.aload 4, 2) := by decide +kernel
theorem dL_buySeat_2 : decode cL_buySeat 2 = .ok (.iconst 0, 1) := by decide +kernel
theorem dL_buySeat_3 : decode cL_buySeat 3 = .ok (.aload_n 0, 1) := by decide +kernel
theorem dL_buySeat_4 : decode cL_buySeat 4 = .ok (.iload_n 1, 1) := by decide +kernel
theorem dL_buySeat_5 : decode cL_buySeat 5 = .ok (.iload_n 2, 1) := by decide +kernel
theorem dL_buySeat_6 : decode cL_buySeat 6 = .ok (.iload_n 3, 1) := by decide +kernel
theorem dL_buySeat_7 : decode cL_buySeat 7 = .ok (.invokevirtual 107, 3) := by decide +kernel
theorem dL_buySeat_10 : decode cL_buySeat 10 = .ok (.i2l, 1) := by decide +kernel
theorem dL_buySeat_11 : decode cL_buySeat 11 = .ok (.lastore, 1) := by decide +kernel
theorem dL_buySeat_12 : decode cL_buySeat 12 = .ok (.goto 11, 3) := by decide +kernel
theorem dL_buySeat_15 : decode cL_buySeat 15 = .ok (.astore 5, 2) := by decide +kernel
theorem dL_buySeat_17 : decode cL_buySeat 17 = .ok (.iconst 1, 1) := by decide +kernel
theorem dL_buySeat_18 : decode cL_buySeat 18 = .ok (.ireturn, 1) := by decide +kernel
theorem dL_buySeat_19 : decode cL_buySeat 19 = .ok (.astore 5, 2) := by decide +kernel
theorem dL_buySeat_21 : decode cL_buySeat 21 = .ok (.iconst 2, 1) := by decide +kernel
theorem dL_buySeat_22 : decode cL_buySeat 22 = .ok (.ireturn, 1) := by decide +kernel
theorem dL_buySeat_23 : decode cL_buySeat 23 = .ok (.iconst 0, 1) := by decide +kernel
theorem dL_buySeat_24 : decode cL_buySeat 24 = .ok (.ireturn, 1) := by decide +kernel
theorem dL_leaveSeat_0 : decode cL_leaveSeat 0 = .ok (.aload_n 2, 1) := by decide +kernel
theorem dL_leaveSeat_1 : decode cL_leaveSeat 1 = .ok (.iconst 0, 1) := by decide +kernel
theorem dL_leaveSeat_2 : decode cL_leaveSeat 2 = .ok (.aload_n 0, 1) := by decide +kernel
theorem dL_leaveSeat_3 : decode cL_leaveSeat 3 = .ok (.iload_n 1, 1) := by decide +kernel
theorem dL_leaveSeat_4 : decode cL_leaveSeat 4 = .ok (.invokevirtual 110, 3) := by decide +kernel
theorem dL_leaveSeat_7 : decode cL_leaveSeat 7 = .ok (.i2l, 1) := by decide +kernel
theorem dL_leaveSeat_8 : decode cL_leaveSeat 8 = .ok (.lastore, 1) := by decide +kernel
theorem dL_leaveSeat_9 : decode cL_leaveSeat 9 = .ok (.goto 9, 3) := by decide +kernel
theorem dL_leaveSeat_12 : decode cL_leaveSeat 12 = .ok (.astore_n 3, 1) := by decide +kernel
theorem dL_leaveSeat_13 : decode cL_leaveSeat 13 = .ok (.iconst 1, 1) := by decide +kernel
theorem dL_leaveSeat_14 : decode cL_leaveSeat 14 = .ok (.ireturn, 1) := by decide +kernel
theorem dL_leaveSeat_15 : decode cL_leaveSeat 15 = .ok (.astore_n 3, 1) := by decide +kernel
theorem dL_leaveSeat_16 : decode cL_leaveSeat 16 = .ok (.iconst 2, 1) := by decide +kernel
theorem dL_leaveSeat_17 : decode cL_leaveSeat 17 = .ok (.ireturn, 1) := by decide +kernel
theorem dL_leaveSeat_18 : decode cL_leaveSeat 18 = .ok (.iconst 0, 1) := by decide +kernel
theorem dL_leaveSeat_19 : decode cL_leaveSeat 19 = .ok (.ireturn, 1) := by decide +kernel
theorem dL_sellWeight_0 : decode cL_sellWeight 0 = .ok (.aload 4, 2) := by decide +kernel
theorem dL_sellWeight_2 : decode cL_sellWeight 2 = .ok (.iconst 0, 1) := by decide +kernel
theorem dL_sellWeight_3 : decode cL_sellWeight 3 = .ok (.aload_n 0, 1) := by decide +kernel
theorem dL_sellWeight_4 : decode cL_sellWeight 4 = .ok (.iload_n 1, 1) := by decide +kernel
theorem dL_sellWeight_5 : decode cL_sellWeight 5 = .ok (.iload_n 2, 1) := by decide +kernel
theorem dL_sellWeight_6 : decode cL_sellWeight 6 = .ok (.iload_n 3, 1) := by decide +kernel
theorem dL_sellWeight_7 : decode cL_sellWeight 7 = .ok (.invokevirtual 113, 3) := by decide +kernel
theorem dL_sellWeight_10 : decode cL_sellWeight 10 = .ok (.i2l, 1) := by decide +kernel
theorem dL_sellWeight_11 : decode cL_sellWeight 11 = .ok (.lastore, 1) := by decide +kernel
theorem dL_sellWeight_12 : decode cL_sellWeight 12 = .ok (.goto 15, 3) := by decide +kernel
theorem dL_sellWeight_15 : decode cL_sellWeight 15 = .ok (.astore 5, 2) := by decide +kernel
theorem dL_sellWeight_17 : decode cL_sellWeight 17 = .ok (.iconst 1, 1) := by decide +kernel
theorem dL_sellWeight_18 : decode cL_sellWeight 18 = .ok (.ireturn, 1) := by decide +kernel
theorem dL_sellWeight_19 : decode cL_sellWeight 19 = .ok (.astore 5, 2) := by decide +kernel
theorem dL_sellWeight_21 : decode cL_sellWeight 21 = .ok (.iconst 2, 1) := by decide +kernel
theorem dL_sellWeight_22 : decode cL_sellWeight 22 = .ok (.ireturn, 1) := by decide +kernel
theorem dL_sellWeight_23 : decode cL_sellWeight 23 = .ok (.astore 5, 2) := by decide +kernel
theorem dL_sellWeight_25 : decode cL_sellWeight 25 = .ok (.iconst 3, 1) := by decide +kernel
theorem dL_sellWeight_26 : decode cL_sellWeight 26 = .ok (.ireturn, 1) := by decide +kernel
theorem dL_sellWeight_27 : decode cL_sellWeight 27 = .ok (.iconst 0, 1) := by decide +kernel
theorem dL_sellWeight_28 : decode cL_sellWeight 28 = .ok (.ireturn, 1) := by decide +kernel
theorem dL_swapSeats_0 : decode cL_swapSeats 0 = .ok (.aload_n 3, 1) := by decide +kernel
theorem dL_swapSeats_1 : decode cL_swapSeats 1 = .ok (.iconst 0, 1) := by decide +kernel
theorem dL_swapSeats_2 : decode cL_swapSeats 2 = .ok (.aload_n 0, 1) := by decide +kernel
theorem dL_swapSeats_3 : decode cL_swapSeats 3 = .ok (.iload_n 1, 1) := by decide +kernel
theorem dL_swapSeats_4 : decode cL_swapSeats 4 = .ok (.iload_n 2, 1) := by decide +kernel
theorem dL_swapSeats_5 : decode cL_swapSeats 5 = .ok (.invokevirtual 116, 3) := by decide +kernel
theorem dL_swapSeats_8 : decode cL_swapSeats 8 = .ok (.i2l, 1) := by decide +kernel
theorem dL_swapSeats_9 : decode cL_swapSeats 9 = .ok (.lastore, 1) := by decide +kernel
theorem dL_swapSeats_10 : decode cL_swapSeats 10 = .ok (.goto 15, 3) := by decide +kernel
theorem dL_swapSeats_13 : decode cL_swapSeats 13 = .ok (.astore 4, 2) := by decide +kernel
theorem dL_swapSeats_15 : decode cL_swapSeats 15 = .ok (.iconst 1, 1) := by decide +kernel
theorem dL_swapSeats_16 : decode cL_swapSeats 16 = .ok (.ireturn, 1) := by decide +kernel
theorem dL_swapSeats_17 : decode cL_swapSeats 17 = .ok (.astore 4, 2) := by decide +kernel
theorem dL_swapSeats_19 : decode cL_swapSeats 19 = .ok (.iconst 2, 1) := by decide +kernel
theorem dL_swapSeats_20 : decode cL_swapSeats 20 = .ok (.ireturn, 1) := by decide +kernel
theorem dL_swapSeats_21 : decode cL_swapSeats 21 = .ok (.astore 4, 2) := by decide +kernel
theorem dL_swapSeats_23 : decode cL_swapSeats 23 = .ok (.iconst 3, 1) := by decide +kernel
theorem dL_swapSeats_24 : decode cL_swapSeats 24 = .ok (.ireturn, 1) := by decide +kernel
theorem dL_swapSeats_25 : decode cL_swapSeats 25 = .ok (.iconst 0, 1) := by decide +kernel
theorem dL_swapSeats_26 : decode cL_swapSeats 26 = .ok (.ireturn, 1) := by decide +kernel
theorem dL_setWage_0 : decode cL_setWage 0 = .ok (.aload_n 2, 1) := by decide +kernel
theorem dL_setWage_1 : decode cL_setWage 1 = .ok (.iconst 0, 1) := by decide +kernel
theorem dL_setWage_2 : decode cL_setWage 2 = .ok (.aload_n 0, 1) := by decide +kernel
theorem dL_setWage_3 : decode cL_setWage 3 = .ok (.iload_n 1, 1) := by decide +kernel
theorem dL_setWage_4 : decode cL_setWage 4 = .ok (.invokevirtual 119, 3) := by decide +kernel
theorem dL_setWage_7 : decode cL_setWage 7 = .ok (.i2l, 1) := by decide +kernel
theorem dL_setWage_8 : decode cL_setWage 8 = .ok (.lastore, 1) := by decide +kernel
theorem dL_setWage_9 : decode cL_setWage 9 = .ok (.goto 6, 3) := by decide +kernel
theorem dL_setWage_12 : decode cL_setWage 12 = .ok (.astore_n 3, 1) := by decide +kernel
theorem dL_setWage_13 : decode cL_setWage 13 = .ok (.iconst 1, 1) := by decide +kernel
theorem dL_setWage_14 : decode cL_setWage 14 = .ok (.ireturn, 1) := by decide +kernel
theorem dL_setWage_15 : decode cL_setWage 15 = .ok (.iconst 0, 1) := by decide +kernel
theorem dL_setWage_16 : decode cL_setWage 16 = .ok (.ireturn, 1) := by decide +kernel
theorem dL_advance_0 : decode cL_advance 0 = .ok (.aload_n 2, 1) := by decide +kernel
theorem dL_advance_1 : decode cL_advance 1 = .ok (.iconst 0, 1) := by decide +kernel
theorem dL_advance_2 : decode cL_advance 2 = .ok (.aload_n 0, 1) := by decide +kernel
theorem dL_advance_3 : decode cL_advance 3 = .ok (.iload_n 1, 1) := by decide +kernel
theorem dL_advance_4 : decode cL_advance 4 = .ok (.invokevirtual 122, 3) := by decide +kernel
theorem dL_advance_7 : decode cL_advance 7 = .ok (.i2l, 1) := by decide +kernel
theorem dL_advance_8 : decode cL_advance 8 = .ok (.lastore, 1) := by decide +kernel
theorem dL_advance_9 : decode cL_advance 9 = .ok (.goto 9, 3) := by decide +kernel
theorem dL_advance_12 : decode cL_advance 12 = .ok (.astore_n 3, 1) := by decide +kernel
theorem dL_advance_13 : decode cL_advance 13 = .ok (.iconst 1, 1) := by decide +kernel
theorem dL_advance_14 : decode cL_advance 14 = .ok (.ireturn, 1) := by decide +kernel
theorem dL_advance_15 : decode cL_advance 15 = .ok (.astore_n 3, 1) := by decide +kernel
theorem dL_advance_16 : decode cL_advance 16 = .ok (.iconst 2, 1) := by decide +kernel
theorem dL_advance_17 : decode cL_advance 17 = .ok (.ireturn, 1) := by decide +kernel
theorem dL_advance_18 : decode cL_advance 18 = .ok (.iconst 0, 1) := by decide +kernel
theorem dL_advance_19 : decode cL_advance 19 = .ok (.ireturn, 1) := by decide +kernel
theorem dL_writeBoard_0 : decode cL_writeBoard 0 = .ok (.aload_n 2, 1) := by decide +kernel
theorem dL_writeBoard_1 : decode cL_writeBoard 1 = .ok (.iconst 0, 1) := by decide +kernel
theorem dL_writeBoard_2 : decode cL_writeBoard 2 = .ok (.aload_n 0, 1) := by decide +kernel
theorem dL_writeBoard_3 : decode cL_writeBoard 3 = .ok (.iload_n 1, 1) := by decide +kernel
theorem dL_writeBoard_4 : decode cL_writeBoard 4 = .ok (.invokevirtual 125, 3) := by decide +kernel
theorem dL_writeBoard_7 : decode cL_writeBoard 7 = .ok (.i2l, 1) := by decide +kernel
theorem dL_writeBoard_8 : decode cL_writeBoard 8 = .ok (.lastore, 1) := by decide +kernel
theorem dL_writeBoard_9 : decode cL_writeBoard 9 = .ok (.goto 6, 3) := by decide +kernel
theorem dL_writeBoard_12 : decode cL_writeBoard 12 = .ok (.astore_n 3, 1) := by decide +kernel
theorem dL_writeBoard_13 : decode cL_writeBoard 13 = .ok (.iconst 1, 1) := by decide +kernel
theorem dL_writeBoard_14 : decode cL_writeBoard 14 = .ok (.ireturn, 1) := by decide +kernel
theorem dL_writeBoard_15 : decode cL_writeBoard 15 = .ok (.iconst 0, 1) := by decide +kernel
theorem dL_writeBoard_16 : decode cL_writeBoard 16 = .ok (.ireturn, 1) := by decide +kernel
theorem dL_undo_0 : decode cL_undo 0 = .ok (.aload_n 1, 1) := by decide +kernel
theorem dL_undo_1 : decode cL_undo 1 = .ok (.iconst 0, 1) := by decide +kernel
theorem dL_undo_2 : decode cL_undo 2 = .ok (.aload_n 0, 1) := by decide +kernel
theorem dL_undo_3 : decode cL_undo 3 = .ok (.invokevirtual 128, 3) := by decide +kernel
theorem dL_undo_6 : decode cL_undo 6 = .ok (.i2l, 1) := by decide +kernel
theorem dL_undo_7 : decode cL_undo 7 = .ok (.lastore, 1) := by decide +kernel
theorem dL_undo_8 : decode cL_undo 8 = .ok (.goto 6, 3) := by decide +kernel
theorem dL_undo_11 : decode cL_undo 11 = .ok (.astore_n 2, 1) := by decide +kernel
theorem dL_undo_12 : decode cL_undo 12 = .ok (.iconst 1, 1) := by decide +kernel
theorem dL_undo_13 : decode cL_undo 13 = .ok (.ireturn, 1) := by decide +kernel
theorem dL_undo_14 : decode cL_undo 14 = .ok (.iconst 0, 1) := by decide +kernel
theorem dL_undo_15 : decode cL_undo 15 = .ok (.ireturn, 1) := by decide +kernel
theorem dL_save_0 : decode cL_save 0 = .ok (.aload_n 2, 1) := by decide +kernel
theorem dL_save_1 : decode cL_save 1 = .ok (.iconst 0, 1) := by decide +kernel
theorem dL_save_2 : decode cL_save 2 = .ok (.aload_n 0, 1) := by decide +kernel
theorem dL_save_3 : decode cL_save 3 = .ok (.iload_n 1, 1) := by decide +kernel
theorem dL_save_4 : decode cL_save 4 = .ok (.invokevirtual 132, 3) := by decide +kernel
theorem dL_save_7 : decode cL_save 7 = .ok (.i2l, 1) := by decide +kernel
theorem dL_save_8 : decode cL_save 8 = .ok (.lastore, 1) := by decide +kernel
theorem dL_save_9 : decode cL_save 9 = .ok (.goto 6, 3) := by decide +kernel
theorem dL_save_12 : decode cL_save 12 = .ok (.astore_n 3, 1) := by decide +kernel
theorem dL_save_13 : decode cL_save 13 = .ok (.iconst 1, 1) := by decide +kernel
theorem dL_save_14 : decode cL_save 14 = .ok (.ireturn, 1) := by decide +kernel
theorem dL_save_15 : decode cL_save 15 = .ok (.iconst 0, 1) := by decide +kernel
theorem dL_save_16 : decode cL_save 16 = .ok (.ireturn, 1) := by decide +kernel
theorem dL_restore_0 : decode cL_restore 0 = .ok (.aload_n 2, 1) := by decide +kernel
theorem dL_restore_1 : decode cL_restore 1 = .ok (.iconst 0, 1) := by decide +kernel
theorem dL_restore_2 : decode cL_restore 2 = .ok (.aload_n 0, 1) := by decide +kernel
theorem dL_restore_3 : decode cL_restore 3 = .ok (.iload_n 1, 1) := by decide +kernel
theorem dL_restore_4 : decode cL_restore 4 = .ok (.invokevirtual 135, 3) := by decide +kernel
theorem dL_restore_7 : decode cL_restore 7 = .ok (.i2l, 1) := by decide +kernel
theorem dL_restore_8 : decode cL_restore 8 = .ok (.lastore, 1) := by decide +kernel
theorem dL_restore_9 : decode cL_restore 9 = .ok (.goto 9, 3) := by decide +kernel
theorem dL_restore_12 : decode cL_restore 12 = .ok (.astore_n 3, 1) := by decide +kernel
theorem dL_restore_13 : decode cL_restore 13 = .ok (.iconst 1, 1) := by decide +kernel
theorem dL_restore_14 : decode cL_restore 14 = .ok (.ireturn, 1) := by decide +kernel
theorem dL_restore_15 : decode cL_restore 15 = .ok (.astore_n 3, 1) := by decide +kernel
theorem dL_restore_16 : decode cL_restore 16 = .ok (.iconst 2, 1) := by decide +kernel
theorem dL_restore_17 : decode cL_restore 17 = .ok (.ireturn, 1) := by decide +kernel
theorem dL_restore_18 : decode cL_restore 18 = .ok (.iconst 0, 1) := by decide +kernel
theorem dL_restore_19 : decode cL_restore 19 = .ok (.ireturn, 1) := by decide +kernel
