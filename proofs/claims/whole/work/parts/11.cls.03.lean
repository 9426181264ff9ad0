set_option maxRecDepth 100000 in
set_option maxHeartbeats 4000000 in
theorem k_X1_readTwoNames (l : Launch) (g : kG) (N : Nat) (M : kMem) (a0 : Nat) (a1 : Nat) : kMet l g yX1_readTwoNames cX1_readTwoNames 2 none 4 0 0 [.ref a0, .ref a1] M (fun r : kMem => (none, r)) (F_X1_readTwoNames N M a0 a1) := by
  refine k_of (lv := [(0, .ref a0), (1, .ref a1)]) RX1 (by decide) rfl rfl (Nat.le_of_ble_eq_true rfl) ?_
  intro p e s m args below meth c hX hr _
  unfold F_X1_readTwoNames
  refine g_aload_n 1 0 hX dX1_readTwoNames_0 rfl rfl ?_
  refine g_aload_n 2 1 hX dX1_readTwoNames_1 rfl rfl ?_
  refine g_callV_l 5 hX (k_X9_takeName l g N M a1) lk_X9_takeName rfl (ci := 9) rfl (Nat.le_of_ble_eq_true rfl) q_798 q_632 (by omega) rfl (Nat.le_of_ble_eq_true rfl) (Nat.zero_le _) (Nat.zero_le _) dX1_readTwoNames_2 rfl (fun r1 => ?_)
  refine p_X1_41 8 hX dX1_readTwoNames_5 rfl ?_
  refine g_klM (fun M2 hM2 => ?_)
  refine g_aload_n 9 0 hX dX1_readTwoNames_8 rfl rfl ?_
  refine g_aload_n 10 1 hX dX1_readTwoNames_9 rfl rfl ?_
  refine g_callV_l 13 hX (k_X9_takeName l g N M2 a1) lk_X9_takeName rfl (ci := 9) rfl (Nat.le_of_ble_eq_true rfl) q_798 q_632 (by omega) rfl (Nat.le_of_ble_eq_true rfl) (Nat.zero_le _) (Nat.zero_le _) dX1_readTwoNames_10 rfl (fun r3 => ?_)
  refine p_X1_66 16 hX dX1_readTwoNames_13 rfl ?_
  refine g_klM (fun M4 hM4 => ?_)
  refine g_aload_n 17 0 hX dX1_readTwoNames_16 rfl rfl ?_
  refine r_X1_41 20 hX dX1_readTwoNames_17 rfl ?_
  refine g_aload_n 21 0 hX dX1_readTwoNames_20 rfl rfl ?_
  refine r_X1_66 24 hX dX1_readTwoNames_21 rfl ?_
  refine g_lcmp 25 hX dX1_readTwoNames_24 rfl ?_
  refine g_if_ne 33 28 hX dX1_readTwoNames_25 (by decide) rfl (fun _ => ?_) (fun _ => ?_)
  · exact g_vret hX hr rfl (Nat.le_refl 0) (Nat.le_refl 0) dX1_readTwoNames_33
  · refine g_aload_n 29 1 hX dX1_readTwoNames_28 rfl rfl ?_
    refine g_iconst 30 hX 3 dX1_readTwoNames_29 rfl kc_i_3 ?_
    refine g_callV_v 33 hX (k_X9_refuseTaken l g N M4 a1 3) lk_X9_refuseTaken rfl (ci := 9) rfl (Nat.le_of_ble_eq_true rfl) q_805 q_646 (by omega) rfl (Nat.le_of_ble_eq_true rfl) (Nat.zero_le _) (Nat.zero_le _) dX1_readTwoNames_30 rfl (fun M5 => ?_)
    exact g_vret hX hr rfl (Nat.le_refl 0) (Nat.le_refl 0) dX1_readTwoNames_33
set_option maxRecDepth 100000 in
set_option maxHeartbeats 4000000 in
theorem k_X1_buyOn (l : Launch) (g : kG) (N : Nat) (M : kMem) (a0 : Nat) (a1 : Nat) (a2 : Nat) : kMet l g yX1_buyOn cX1_buyOn 4 (some .boolean) 5 0 0 [.ref a0, .ref a1, .ref a2] M (fun r : Int32 × kMem => (some (.int r.1), r.2)) (F_X1_buyOn N M a0 a1 a2) := by
  refine k_of (lv := [(0, .ref a0), (1, .ref a1), (2, .ref a2)]) RX1 (by decide) rfl rfl (Nat.le_of_ble_eq_true rfl) ?_
  intro p e s m args below meth c hX hr _
  unfold F_X1_buyOn
  refine g_aload_n 1 1 hX dX1_buyOn_0 rfl rfl ?_
  refine g_aload_n 2 0 hX dX1_buyOn_1 rfl rfl ?_
  refine r_X1_49 5 hX dX1_buyOn_2 rfl ?_
  refine g_callV_rp 8 hX (k_X4_boardNumbered l g N M a1 (kI M a0 3)) lk_X4_boardNumbered rfl (ci := 4) rfl (Nat.le_of_ble_eq_true rfl) q_844 q_662 (by omega) rfl (Nat.le_of_ble_eq_true rfl) (Nat.zero_le _) (Nat.zero_le _) dX1_buyOn_5 rfl (fun r1 => ?_)
  refine g_astore_n 9 3 [(3, .ref r1), (0, .ref a0), (1, .ref a1), (2, .ref a2)] hX dX1_buyOn_8 rfl rfl (Nat.le_of_ble_eq_true rfl) rfl ?_
  refine g_aload_n 10 3 hX dX1_buyOn_9 rfl rfl ?_
  refine g_ifnull 41 13 hX dX1_buyOn_10 (by decide) rfl (fun _ => ?_) (fun _ => ?_)
  · refine g_iconst 42 hX 0 dX1_buyOn_41 rfl kc_i_0 ?_
    exact g_zretL hX hr rfl rfl (Nat.le_refl 0) (Nat.le_refl 0) dX1_buyOn_42
  · refine g_aload_n 14 0 hX dX1_buyOn_13 rfl rfl ?_
    refine g_ifnull 41 17 hX dX1_buyOn_14 (by decide) rfl (fun _ => ?_) (fun _ => ?_)
    · refine g_iconst 42 hX 0 dX1_buyOn_41 rfl kc_i_0 ?_
      exact g_zretL hX hr rfl rfl (Nat.le_refl 0) (Nat.le_refl 0) dX1_buyOn_42
    · refine g_aload_n 18 0 hX dX1_buyOn_17 rfl rfl ?_
      refine g_aload_n 19 1 hX dX1_buyOn_18 rfl rfl ?_
      refine r_X1_59 22 hX dX1_buyOn_19 rfl ?_
      refine g_callV_ip 25 hX (k_X0_hasSeat l g N M r1 (kI M a0 5)) lk_X0_hasSeat rfl (ci := 0) rfl (Nat.le_of_ble_eq_true rfl) q_845 q_676 (by omega) rfl (Nat.le_of_ble_eq_true rfl) (Nat.zero_le _) (Nat.zero_le _) dX1_buyOn_22 rfl (fun r2 => ?_)
      refine g_if_eq 41 28 hX dX1_buyOn_25 (by decide) rfl (fun _ => ?_) (fun _ => ?_)
      · refine g_iconst 42 hX 0 dX1_buyOn_41 rfl kc_i_0 ?_
        exact g_zretL hX hr rfl rfl (Nat.le_refl 0) (Nat.le_refl 0) dX1_buyOn_42
      · refine g_aload_n 29 2 hX dX1_buyOn_28 rfl rfl ?_
        refine g_aload_n 30 3 hX dX1_buyOn_29 rfl rfl ?_
        refine g_aload_n 31 0 hX dX1_buyOn_30 rfl rfl ?_
        refine g_aload_n 32 1 hX dX1_buyOn_31 rfl rfl ?_
        refine r_X1_59 35 hX dX1_buyOn_32 rfl ?_
        refine g_callV_ip 38 hX (k_X4_whyNotSeat l g N M a1 a2 r1 (kI M a0 5)) lk_X4_whyNotSeat rfl (ci := 4) rfl (Nat.le_of_ble_eq_true rfl) q_846 q_848 (by omega) rfl (Nat.le_of_ble_eq_true rfl) (Nat.zero_le _) (Nat.zero_le _) dX1_buyOn_35 rfl (fun r3 => ?_)
        refine g_if_eq 43 41 hX dX1_buyOn_38 (by decide) rfl (fun _ => ?_) (fun _ => ?_)
        · refine g_aload_n 44 2 hX dX1_buyOn_43 rfl rfl ?_
          refine g_aload_n 45 3 hX dX1_buyOn_44 rfl rfl ?_
          refine g_aload_n 46 0 hX dX1_buyOn_45 rfl rfl ?_
          refine g_aload_n 47 1 hX dX1_buyOn_46 rfl rfl ?_
          refine r_X1_59 50 hX dX1_buyOn_47 rfl ?_
          refine g_callV_i 53 hX (k_X4_sellSeat l g N M a1 a2 r1 (kI M a0 5)) lk_X4_sellSeat rfl (ci := 4) rfl (Nat.le_of_ble_eq_true rfl) q_884 q_886 (by omega) rfl (Nat.le_of_ble_eq_true rfl) (Nat.zero_le _) (Nat.zero_le _) dX1_buyOn_50 rfl (fun r4 => ?_)
          refine g_pop 54 hX dX1_buyOn_53 rfl rfl ?_
          refine g_iconst 55 hX 1 dX1_buyOn_54 rfl kc_i_1 ?_
          exact g_zretL hX hr rfl rfl (Nat.le_refl 0) (Nat.le_refl 0) dX1_buyOn_55
        · refine g_iconst 42 hX 0 dX1_buyOn_41 rfl kc_i_0 ?_
          exact g_zretL hX hr rfl rfl (Nat.le_refl 0) (Nat.le_refl 0) dX1_buyOn_42
set_option maxRecDepth 100000 in
set_option maxHeartbeats 4000000 in
theorem k_X1_joinOn (l : Launch) (g : kG) (N : Nat) (M : kMem) (a0 : Nat) (a1 : Nat) : kMet l g yX1_joinOn cX1_joinOn 2 (some .boolean) 3 0 0 [.ref a0, .ref a1] M (fun r : Int32 × kMem => (some (.int r.1), r.2)) (F_X1_joinOn N M a0 a1) := by
  refine k_of (lv := [(0, .ref a0), (1, .ref a1)]) RX1 (by decide) rfl rfl (Nat.le_of_ble_eq_true rfl) ?_
  intro p e s m args below meth c hX hr _
  unfold F_X1_joinOn
  refine g_aload_n 1 1 hX dX1_joinOn_0 rfl rfl ?_
  refine g_aload_n 2 0 hX dX1_joinOn_1 rfl rfl ?_
  refine r_X1_41 5 hX dX1_joinOn_2 rfl ?_
  refine g_callV_ip 8 hX (k_X4_canAdmit l g N M a1 (kJ M a0 1)) lk_X4_canAdmit rfl (ci := 4) rfl (Nat.le_of_ble_eq_true rfl) q_833 q_835 (by omega) rfl (Nat.le_of_ble_eq_true rfl) (Nat.zero_le _) (Nat.zero_le _) dX1_joinOn_5 rfl (fun r1 => ?_)
  refine g_if_ne 13 11 hX dX1_joinOn_8 (by decide) rfl (fun _ => ?_) (fun _ => ?_)
  · refine g_aload_n 14 1 hX dX1_joinOn_13 rfl rfl ?_
    refine g_aload_n 15 0 hX dX1_joinOn_14 rfl rfl ?_
    refine r_X1_41 18 hX dX1_joinOn_15 rfl ?_
    refine g_aload_n 19 0 hX dX1_joinOn_18 rfl rfl ?_
    refine r_X1_49 22 hX dX1_joinOn_19 rfl ?_
    refine g_aload_n 23 0 hX dX1_joinOn_22 rfl rfl ?_
    refine r_X1_52 26 hX dX1_joinOn_23 rfl ?_
    refine g_iconst 27 hX 0 dX1_joinOn_26 rfl kc_i_0 ?_
    refine g_callV_i 30 hX (k_X4_admit l g N M a1 (kJ M a0 1) (kI M a0 3) (kI M a0 4) 0) lk_X4_admit rfl (ci := 4) rfl (Nat.le_of_ble_eq_true rfl) q_838 q_650 (by omega) rfl (Nat.le_of_ble_eq_true rfl) (Nat.zero_le _) (Nat.zero_le _) dX1_joinOn_27 rfl (fun r2 => ?_)
    refine g_pop 31 hX dX1_joinOn_30 rfl rfl ?_
    refine g_iconst 32 hX 1 dX1_joinOn_31 rfl kc_i_1 ?_
    exact g_zretL hX hr rfl rfl (Nat.le_refl 0) (Nat.le_refl 0) dX1_joinOn_32
  · refine g_iconst 12 hX 0 dX1_joinOn_11 rfl kc_i_0 ?_
    exact g_zretL hX hr rfl rfl (Nat.le_refl 0) (Nat.le_refl 0) dX1_joinOn_12
set_option maxRecDepth 100000 in
set_option maxHeartbeats 4000000 in
theorem k_X1_leaveOn (l : Launch) (g : kG) (N : Nat) (M : kMem) (a0 : Nat) (a1 : Nat) : kMet l g yX1_leaveOn cX1_leaveOn 2 (some .boolean) 3 0 0 [.ref a0, .ref a1] M (fun r : Int32 × kMem => (some (.int r.1), r.2)) (F_X1_leaveOn N M a0 a1) := by
  refine k_of (lv := [(0, .ref a0), (1, .ref a1)]) RX1 (by decide) rfl rfl (Nat.le_of_ble_eq_true rfl) ?_
  intro p e s m args below meth c hX hr _
  unfold F_X1_leaveOn
  refine g_aload_n 1 1 hX dX1_leaveOn_0 rfl rfl ?_
  refine g_ifnull 11 4 hX dX1_leaveOn_1 (by decide) rfl (fun _ => ?_) (fun _ => ?_)
  · refine g_iconst 12 hX 0 dX1_leaveOn_11 rfl kc_i_0 ?_
    exact g_zretL hX hr rfl rfl (Nat.le_refl 0) (Nat.le_refl 0) dX1_leaveOn_12
  · refine g_aload_n 5 1 hX dX1_leaveOn_4 rfl rfl ?_
    refine g_callV_ip 8 hX (k_X10_isSeated l g N M a1) lk_X10_isSeated rfl (ci := 10) rfl (Nat.le_of_ble_eq_true rfl) q_897 q_658 (by omega) rfl (Nat.le_of_ble_eq_true rfl) (Nat.zero_le _) (Nat.zero_le _) dX1_leaveOn_5 rfl (fun r1 => ?_)
    refine g_if_ne 13 11 hX dX1_leaveOn_8 (by decide) rfl (fun _ => ?_) (fun _ => ?_)
    · refine g_aload_n 14 0 hX dX1_leaveOn_13 rfl rfl ?_
      refine g_aload_n 15 1 hX dX1_leaveOn_14 rfl rfl ?_
      refine g_callV_v 18 hX (k_X4_unseat l g N M a0 a1) lk_X4_unseat rfl (ci := 4) rfl (Nat.le_of_ble_eq_true rfl) q_898 q_890 (by omega) rfl (Nat.le_of_ble_eq_true rfl) (Nat.zero_le _) (Nat.zero_le _) dX1_leaveOn_15 rfl (fun M2 => ?_)
      refine g_iconst 19 hX 1 dX1_leaveOn_18 rfl kc_i_1 ?_
      exact g_zretL hX hr rfl rfl (Nat.le_refl 0) (Nat.le_refl 0) dX1_leaveOn_19
    · refine g_iconst 12 hX 0 dX1_leaveOn_11 rfl kc_i_0 ?_
      exact g_zretL hX hr rfl rfl (Nat.le_refl 0) (Nat.le_refl 0) dX1_leaveOn_12
set_option maxRecDepth 100000 in
set_option maxHeartbeats 4000000 in
theorem k_X1_sellOn (l : Launch) (g : kG) (N : Nat) (M : kMem) (a0 : Nat) (a1 : Nat) (a2 : Nat) (a3 : Nat) : kMet l g yX1_sellOn cX1_sellOn 4 (some .boolean) 5 0 0 [.ref a0, .ref a1, .ref a2, .ref a3] M (fun r : Int32 × kMem => (some (.int r.1), r.2)) (F_X1_sellOn N M a0 a1 a2 a3) := by
  refine k_of (lv := [(0, .ref a0), (1, .ref a1), (2, .ref a2), (3, .ref a3)]) RX1 (by decide) rfl rfl (Nat.le_of_ble_eq_true rfl) ?_
  intro p e s m args below meth c hX hr _
  unfold F_X1_sellOn
  refine g_aload_n 1 2 hX dX1_sellOn_0 rfl rfl ?_
  refine g_ifnull 21 4 hX dX1_sellOn_1 (by decide) rfl (fun _ => ?_) (fun _ => ?_)
  · refine g_iconst 22 hX 0 dX1_sellOn_21 rfl kc_i_0 ?_
    exact g_zretL hX hr rfl rfl (Nat.le_refl 0) (Nat.le_refl 0) dX1_sellOn_22
  · refine g_aload_n 5 3 hX dX1_sellOn_4 rfl rfl ?_
    refine g_ifnull 21 8 hX dX1_sellOn_5 (by decide) rfl (fun _ => ?_) (fun _ => ?_)
    · refine g_iconst 22 hX 0 dX1_sellOn_21 rfl kc_i_0 ?_
      exact g_zretL hX hr rfl rfl (Nat.le_refl 0) (Nat.le_refl 0) dX1_sellOn_22
    · refine g_aload_n 9 1 hX dX1_sellOn_8 rfl rfl ?_
      refine g_aload_n 10 2 hX dX1_sellOn_9 rfl rfl ?_
      refine g_aload_n 11 3 hX dX1_sellOn_10 rfl rfl ?_
      refine g_aload_n 12 0 hX dX1_sellOn_11 rfl rfl ?_
      refine r_X1_49 15 hX dX1_sellOn_12 rfl ?_
      refine g_callV_ip 18 hX (k_X4_whyNotSale l g N M a1 a2 a3 (kI M a0 3)) lk_X4_whyNotSale rfl (ci := 4) rfl (Nat.le_of_ble_eq_true rfl) q_903 q_905 (by omega) rfl (Nat.le_of_ble_eq_true rfl) (Nat.zero_le _) (Nat.zero_le _) dX1_sellOn_15 rfl (fun r1 => ?_)
      refine g_if_eq 23 21 hX dX1_sellOn_18 (by decide) rfl (fun _ => ?_) (fun _ => ?_)
      · refine g_aload_n 24 1 hX dX1_sellOn_23 rfl rfl ?_
        refine g_aload_n 25 2 hX dX1_sellOn_24 rfl rfl ?_
        refine g_aload_n 26 3 hX dX1_sellOn_25 rfl rfl ?_
        refine g_aload_n 27 0 hX dX1_sellOn_26 rfl rfl ?_
        refine r_X1_49 30 hX dX1_sellOn_27 rfl ?_
        refine g_callV_i 33 hX (k_X4_moveWeight l g N M a1 a2 a3 (kI M a0 3)) lk_X4_moveWeight rfl (ci := 4) rfl (Nat.le_of_ble_eq_true rfl) q_916 q_918 (by omega) rfl (Nat.le_of_ble_eq_true rfl) (Nat.zero_le _) (Nat.zero_le _) dX1_sellOn_30 rfl (fun r2 => ?_)
        refine g_pop 34 hX dX1_sellOn_33 rfl rfl ?_
        refine g_iconst 35 hX 1 dX1_sellOn_34 rfl kc_i_1 ?_
        exact g_zretL hX hr rfl rfl (Nat.le_refl 0) (Nat.le_refl 0) dX1_sellOn_35
      · refine g_iconst 22 hX 0 dX1_sellOn_21 rfl kc_i_0 ?_
        exact g_zretL hX hr rfl rfl (Nat.le_refl 0) (Nat.le_refl 0) dX1_sellOn_22
set_option maxRecDepth 100000 in
set_option maxHeartbeats 4000000 in
theorem k_X1_swapOn (l : Launch) (g : kG) (N : Nat) (M : kMem) (a0 : Nat) (a1 : Nat) (a2 : Nat) : kMet l g yX1_swapOn cX1_swapOn 3 (some .boolean) 4 0 0 [.ref a0, .ref a1, .ref a2] M (fun r : Int32 × kMem => (some (.int r.1), r.2)) (F_X1_swapOn N M a0 a1 a2) := by
  refine k_of (lv := [(0, .ref a0), (1, .ref a1), (2, .ref a2)]) RX1 (by decide) rfl rfl (Nat.le_of_ble_eq_true rfl) ?_
  intro p e s m args below meth c hX hr _
  unfold F_X1_swapOn
  refine g_aload_n 1 1 hX dX1_swapOn_0 rfl rfl ?_
  refine g_ifnull 17 4 hX dX1_swapOn_1 (by decide) rfl (fun _ => ?_) (fun _ => ?_)
  · refine g_iconst 18 hX 0 dX1_swapOn_17 rfl kc_i_0 ?_
    exact g_zretL hX hr rfl rfl (Nat.le_refl 0) (Nat.le_refl 0) dX1_swapOn_18
  · refine g_aload_n 5 2 hX dX1_swapOn_4 rfl rfl ?_
    refine g_ifnull 17 8 hX dX1_swapOn_5 (by decide) rfl (fun _ => ?_) (fun _ => ?_)
    · refine g_iconst 18 hX 0 dX1_swapOn_17 rfl kc_i_0 ?_
      exact g_zretL hX hr rfl rfl (Nat.le_refl 0) (Nat.le_refl 0) dX1_swapOn_18
    · refine g_aload_n 9 0 hX dX1_swapOn_8 rfl rfl ?_
      refine g_aload_n 10 1 hX dX1_swapOn_9 rfl rfl ?_
      refine g_aload_n 11 2 hX dX1_swapOn_10 rfl rfl ?_
      refine g_callV_ip 14 hX (k_X4_whyNotSwap l g N M a0 a1 a2) lk_X4_whyNotSwap rfl (ci := 4) rfl (Nat.le_of_ble_eq_true rfl) q_923 q_925 (by omega) rfl (Nat.le_of_ble_eq_true rfl) (Nat.zero_le _) (Nat.zero_le _) dX1_swapOn_11 rfl (fun r1 => ?_)
      refine g_if_eq 19 17 hX dX1_swapOn_14 (by decide) rfl (fun _ => ?_) (fun _ => ?_)
      · refine g_aload_n 20 0 hX dX1_swapOn_19 rfl rfl ?_
        refine g_aload_n 21 1 hX dX1_swapOn_20 rfl rfl ?_
        refine g_aload_n 22 2 hX dX1_swapOn_21 rfl rfl ?_
        refine g_callV_i 25 hX (k_X4_exchangeSeats l g N M a0 a1 a2) lk_X4_exchangeSeats rfl (ci := 4) rfl (Nat.le_of_ble_eq_true rfl) q_931 q_933 (by omega) rfl (Nat.le_of_ble_eq_true rfl) (Nat.zero_le _) (Nat.zero_le _) dX1_swapOn_22 rfl (fun r2 => ?_)
        refine g_pop 26 hX dX1_swapOn_25 rfl rfl ?_
        refine g_iconst 27 hX 1 dX1_swapOn_26 rfl kc_i_1 ?_
        exact g_zretL hX hr rfl rfl (Nat.le_refl 0) (Nat.le_refl 0) dX1_swapOn_27
      · refine g_iconst 18 hX 0 dX1_swapOn_17 rfl kc_i_0 ?_
        exact g_zretL hX hr rfl rfl (Nat.le_refl 0) (Nat.le_refl 0) dX1_swapOn_18
set_option maxRecDepth 100000 in
set_option maxHeartbeats 4000000 in
theorem k_X1_performOn (l : Launch) (g : kG) (N : Nat) (M : kMem) (a0 : Nat) (a1 : Nat) : kMet l g yX1_performOn cX1_performOn 2 (some .boolean) 6 0 0 [.ref a0, .ref a1] M (fun r : Int32 × kMem => (some (.int r.1), r.2)) (F_X1_performOn N M a0 a1) := by
  refine k_of (lv := [(0, .ref a0), (1, .ref a1)]) RX1 (by decide) rfl rfl (Nat.le_of_ble_eq_true rfl) ?_
  intro p e s m args below meth c hX hr _
  unfold F_X1_performOn
  refine g_aload_n 1 0 hX dX1_performOn_0 rfl rfl ?_
  refine r_X1_33 4 hX dX1_performOn_1 rfl ?_
  refine g_ite (fun hs1 => ?_) (fun hs1 => ?_)
  · refine g_tswIn 48 hX 1 hs1 dX1_performOn_4 (by decide) (by decide) rfl (by decide) ?_
    refine g_aload_n 49 0 hX dX1_performOn_48 rfl rfl ?_
    refine g_aload_n 50 1 hX dX1_performOn_49 rfl rfl ?_
    refine g_callV_i 53 hX (k_X1_joinOn l g N M a0 a1) lk_X1_joinOn rfl (ci := 1) rfl (Nat.le_of_ble_eq_true rfl) q_829 q_13 (by omega) rfl (Nat.le_of_ble_eq_true rfl) (Nat.zero_le _) (Nat.zero_le _) dX1_performOn_50 rfl (fun r1 => ?_)
    exact g_zret hX hr rfl (Nat.le_refl 0) (Nat.le_refl 0) dX1_performOn_53
  · skip
    refine g_ite (fun hs2 => ?_) (fun hs2 => ?_)
    · refine g_tswIn 54 hX 2 hs2 dX1_performOn_4 (by decide) (by decide) rfl (by decide) ?_
      refine g_aload_n 55 0 hX dX1_performOn_54 rfl rfl ?_
      refine g_aload_n 56 1 hX dX1_performOn_55 rfl rfl ?_
      refine g_aload_n 57 1 hX dX1_performOn_56 rfl rfl ?_
      refine g_aload_n 58 0 hX dX1_performOn_57 rfl rfl ?_
      refine r_X1_41 61 hX dX1_performOn_58 rfl ?_
      refine g_callV_rp 64 hX (k_X4_traderNamed l g N M a1 (kJ M a0 1)) lk_X4_traderNamed rfl (ci := 4) rfl (Nat.le_of_ble_eq_true rfl) q_839 q_642 (by omega) rfl (Nat.le_of_ble_eq_true rfl) (Nat.zero_le _) (Nat.zero_le _) dX1_performOn_61 rfl (fun r2 => ?_)
      refine g_callV_i 67 hX (k_X1_buyOn l g N M a0 a1 r2) lk_X1_buyOn rfl (ci := 1) rfl (Nat.le_of_ble_eq_true rfl) q_840 q_14 (by omega) rfl (Nat.le_of_ble_eq_true rfl) (Nat.zero_le _) (Nat.zero_le _) dX1_performOn_64 rfl (fun r3 => ?_)
      exact g_zret hX hr rfl (Nat.le_refl 0) (Nat.le_refl 0) dX1_performOn_67
    · skip
      refine g_ite (fun hs3 => ?_) (fun hs3 => ?_)
      · refine g_tswIn 68 hX 3 hs3 dX1_performOn_4 (by decide) (by decide) rfl (by decide) ?_
        refine g_aload_n 69 1 hX dX1_performOn_68 rfl rfl ?_
        refine g_aload_n 70 1 hX dX1_performOn_69 rfl rfl ?_
        refine g_aload_n 71 0 hX dX1_performOn_70 rfl rfl ?_
        refine r_X1_41 74 hX dX1_performOn_71 rfl ?_
        refine g_callV_rp 77 hX (k_X4_traderNamed l g N M a1 (kJ M a0 1)) lk_X4_traderNamed rfl (ci := 4) rfl (Nat.le_of_ble_eq_true rfl) q_839 q_642 (by omega) rfl (Nat.le_of_ble_eq_true rfl) (Nat.zero_le _) (Nat.zero_le _) dX1_performOn_74 rfl (fun r4 => ?_)
        refine g_callS_i 80 hX (k_X1_leaveOn l g N M a1 r4) lk_X1_leaveOn q_894 (by omega) rfl (Nat.le_of_ble_eq_true rfl) (Nat.zero_le _) (Nat.zero_le _) dX1_performOn_77 rfl (fun r5 => ?_)
        exact g_zret hX hr rfl (Nat.le_refl 0) (Nat.le_refl 0) dX1_performOn_80
      · skip
        refine g_ite (fun hs4 => ?_) (fun hs4 => ?_)
        · refine g_tswIn 81 hX 4 hs4 dX1_performOn_4 (by decide) (by decide) rfl (by decide) ?_
          refine g_aload_n 82 0 hX dX1_performOn_81 rfl rfl ?_
          refine g_aload_n 83 1 hX dX1_performOn_82 rfl rfl ?_
          refine g_aload_n 84 1 hX dX1_performOn_83 rfl rfl ?_
          refine g_aload_n 85 0 hX dX1_performOn_84 rfl rfl ?_
          refine r_X1_41 88 hX dX1_performOn_85 rfl ?_
          refine g_callV_rp 91 hX (k_X4_traderNamed l g N M a1 (kJ M a0 1)) lk_X4_traderNamed rfl (ci := 4) rfl (Nat.le_of_ble_eq_true rfl) q_839 q_642 (by omega) rfl (Nat.le_of_ble_eq_true rfl) (Nat.zero_le _) (Nat.zero_le _) dX1_performOn_88 rfl (fun r6 => ?_)
          refine g_aload_n 92 1 hX dX1_performOn_91 rfl rfl ?_
          refine g_aload_n 93 0 hX dX1_performOn_92 rfl rfl ?_
          refine r_X1_66 96 hX dX1_performOn_93 rfl ?_
          refine g_callV_rp 99 hX (k_X4_traderNamed l g N M a1 (kJ M a0 2)) lk_X4_traderNamed rfl (ci := 4) rfl (Nat.le_of_ble_eq_true rfl) q_839 q_642 (by omega) rfl (Nat.le_of_ble_eq_true rfl) (Nat.zero_le _) (Nat.zero_le _) dX1_performOn_96 rfl (fun r7 => ?_)
          refine g_callV_i 102 hX (k_X1_sellOn l g N M a0 a1 r6 r7) lk_X1_sellOn rfl (ci := 1) rfl (Nat.le_of_ble_eq_true rfl) q_899 q_16 (by omega) rfl (Nat.le_of_ble_eq_true rfl) (Nat.zero_le _) (Nat.zero_le _) dX1_performOn_99 rfl (fun r8 => ?_)
          exact g_zret hX hr rfl (Nat.le_refl 0) (Nat.le_refl 0) dX1_performOn_102
        · skip
          refine g_ite (fun hs5 => ?_) (fun hs5 => ?_)
          · refine g_tswIn 103 hX 5 hs5 dX1_performOn_4 (by decide) (by decide) rfl (by decide) ?_
            refine g_aload_n 104 1 hX dX1_performOn_103 rfl rfl ?_
            refine g_aload_n 105 1 hX dX1_performOn_104 rfl rfl ?_
            refine g_aload_n 106 0 hX dX1_performOn_105 rfl rfl ?_
            refine r_X1_41 109 hX dX1_performOn_106 rfl ?_
            refine g_callV_rp 112 hX (k_X4_traderNamed l g N M a1 (kJ M a0 1)) lk_X4_traderNamed rfl (ci := 4) rfl (Nat.le_of_ble_eq_true rfl) q_839 q_642 (by omega) rfl (Nat.le_of_ble_eq_true rfl) (Nat.zero_le _) (Nat.zero_le _) dX1_performOn_109 rfl (fun r9 => ?_)
            refine g_aload_n 113 1 hX dX1_performOn_112 rfl rfl ?_
            refine g_aload_n 114 0 hX dX1_performOn_113 rfl rfl ?_
            refine r_X1_66 117 hX dX1_performOn_114 rfl ?_
            refine g_callV_rp 120 hX (k_X4_traderNamed l g N M a1 (kJ M a0 2)) lk_X4_traderNamed rfl (ci := 4) rfl (Nat.le_of_ble_eq_true rfl) q_839 q_642 (by omega) rfl (Nat.le_of_ble_eq_true rfl) (Nat.zero_le _) (Nat.zero_le _) dX1_performOn_117 rfl (fun r10 => ?_)
            refine g_callS_i 123 hX (k_X1_swapOn l g N M a1 r9 r10) lk_X1_swapOn q_920 (by omega) rfl (Nat.le_of_ble_eq_true rfl) (Nat.zero_le _) (Nat.zero_le _) dX1_performOn_120 rfl (fun r11 => ?_)
            exact g_zret hX hr rfl (Nat.le_refl 0) (Nat.le_refl 0) dX1_performOn_123
          · skip
            refine g_ite (fun hs6 => ?_) (fun hs6 => ?_)
            · refine g_tswIn 124 hX 6 hs6 dX1_performOn_4 (by decide) (by decide) rfl (by decide) ?_
              refine g_aload_n 125 1 hX dX1_performOn_124 rfl rfl ?_
              refine g_aload_n 126 0 hX dX1_performOn_125 rfl rfl ?_
              refine r_X1_49 129 hX dX1_performOn_126 rfl ?_
              refine p_X1_97 132 hX dX1_performOn_129 rfl ?_
              refine g_klM (fun M12 hM12 => ?_)
              refine g_iconst 133 hX 1 dX1_performOn_132 rfl kc_i_1 ?_
              exact g_zretL hX hr rfl rfl (Nat.le_refl 0) (Nat.le_refl 0) dX1_performOn_133
            · skip
              refine g_ite (fun hs7 => ?_) (fun hs7 => ?_)
              · refine g_tswIn 134 hX 7 hs7 dX1_performOn_4 (by decide) (by decide) rfl (by decide) ?_
                refine g_aload_n 135 1 hX dX1_performOn_134 rfl rfl ?_
                refine g_aload_n 136 0 hX dX1_performOn_135 rfl rfl ?_
                refine r_X1_49 139 hX dX1_performOn_136 rfl ?_
                refine g_callV_ip 142 hX (k_X4_allowsDays l g N M a1 (kI M a0 3)) lk_X4_allowsDays rfl (ci := 4) rfl (Nat.le_of_ble_eq_true rfl) q_935 q_937 (by omega) rfl (Nat.le_of_ble_eq_true rfl) (Nat.zero_le _) (Nat.zero_le _) dX1_performOn_139 rfl (fun r13 => ?_)
                refine g_if_ne 147 145 hX dX1_performOn_142 (by decide) rfl (fun _ => ?_) (fun _ => ?_)
                · refine g_aload_n 148 1 hX dX1_performOn_147 rfl rfl ?_
                  refine g_aload_n 149 0 hX dX1_performOn_148 rfl rfl ?_
                  refine r_X1_49 152 hX dX1_performOn_149 rfl ?_
                  refine g_callV_i 155 hX (k_X4_passDays l g N M a1 (kI M a0 3)) lk_X4_passDays rfl (ci := 4) rfl (Nat.le_of_ble_eq_true rfl) q_939 q_941 (by omega) rfl (Nat.le_of_ble_eq_true rfl) (Nat.zero_le _) (Nat.zero_le _) dX1_performOn_152 rfl (fun r14 => ?_)
                  refine g_pop 156 hX dX1_performOn_155 rfl rfl ?_
                  refine g_iconst 157 hX 1 dX1_performOn_156 rfl kc_i_1 ?_
                  exact g_zretL hX hr rfl rfl (Nat.le_refl 0) (Nat.le_refl 0) dX1_performOn_157
                · refine g_iconst 146 hX 0 dX1_performOn_145 rfl kc_i_0 ?_
                  exact g_zretL hX hr rfl rfl (Nat.le_refl 0) (Nat.le_refl 0) dX1_performOn_146
              · skip
                have hs1 := lv_neT hs1 (k := 1) (a := 1) (by decide)
                have hs2 := lv_neT hs2 (k := 2) (a := 2) (by decide)
                have hs3 := lv_neT hs3 (k := 3) (a := 3) (by decide)
                have hs4 := lv_neT hs4 (k := 4) (a := 4) (by decide)
                have hs5 := lv_neT hs5 (k := 5) (a := 5) (by decide)
                have hs6 := lv_neT hs6 (k := 6) (a := 6) (by decide)
                have hs7 := lv_neT hs7 (k := 7) (a := 7) (by decide)
                refine g_tswOut 158 hX dX1_performOn_4 (by omega) (by decide) ?_
                refine g_iconst 159 hX 0 dX1_performOn_158 rfl kc_i_0 ?_
                exact g_zretL hX hr rfl rfl (Nat.le_refl 0) (Nat.le_refl 0) dX1_performOn_159
set_option maxRecDepth 100000 in
set_option maxHeartbeats 4000000 in
theorem k_X6_commandAt (l : Launch) (g : kG) (N : Nat) (M : kMem) (a0 : Nat) (x1 : Int32) : kMet l g yX6_commandAt cX6_commandAt 2 (some (.object "SeesawMarket$Command")) 1 0 0 [.ref a0, .int x1] M (fun r : Nat => (some (.ref r), M)) (F_X6_commandAt N M a0 x1) := by
  refine k_of (lv := [(0, .ref a0), (1, .int x1)]) RX6 (by decide) rfl rfl (Nat.le_of_ble_eq_true rfl) ?_
  intro p e s m args below meth c hX hr _
  unfold F_X6_commandAt
  refine g_aload_n 1 0 hX dX6_commandAt_0 rfl rfl ?_
  refine r_X6_11 4 hX dX6_commandAt_1 rfl ?_
  refine g_iload_n 5 1 hX dX6_commandAt_4 rfl rfl ?_
  refine g_if_lt 21 8 hX dX6_commandAt_5 (by decide) rfl (fun _ => ?_) (fun _ => ?_)
  · refine g_iconst 22 hX 0 dX6_commandAt_21 rfl kc_i_0 ?_
    refine g_aald 19 6 23 hX RX1 (Nat.le_of_ble_eq_true rfl) rfl dX6_commandAt_22 rfl ?_
    exact g_aret hX hr (Or.inl ⟨_, rfl⟩) rfl (Nat.le_refl 0) (Nat.le_refl 0) dX6_commandAt_23
  · refine g_iload_n 9 1 hX dX6_commandAt_8 rfl rfl ?_
    refine g_aload_n 10 0 hX dX6_commandAt_9 rfl rfl ?_
    refine r_X6_11 13 hX dX6_commandAt_10 rfl ?_
    refine g_alenR 19 6 14 hX RX1 (Nat.le_of_ble_eq_true rfl) rfl dX6_commandAt_13 rfl ?_
    refine g_icmp_ge 21 17 hX dX6_commandAt_14 (by decide) rfl (fun _ => ?_) (fun _ => ?_)
    · refine g_iconst 22 hX 0 dX6_commandAt_21 rfl kc_i_0 ?_
      refine g_aald 19 6 23 hX RX1 (Nat.le_of_ble_eq_true rfl) rfl dX6_commandAt_22 rfl ?_
      exact g_aret hX hr (Or.inl ⟨_, rfl⟩) rfl (Nat.le_refl 0) (Nat.le_refl 0) dX6_commandAt_23
    · refine g_iload_n 18 1 hX dX6_commandAt_17 rfl rfl ?_
      refine g_goto 22 hX dX6_commandAt_18 (by decide) ?_
      refine g_aald 19 6 23 hX RX1 (Nat.le_of_ble_eq_true rfl) rfl dX6_commandAt_22 rfl ?_
      exact g_aret hX hr (Or.inl ⟨_, rfl⟩) rfl (Nat.le_refl 0) (Nat.le_refl 0) dX6_commandAt_23
set_option maxRecDepth 100000 in
set_option maxHeartbeats 4000000 in
theorem k_X6_stepAt (l : Launch) (g : kG) (N : Nat) (M : kMem) (a0 : Nat) (x1 : Int32) : kMet l g yX6_stepAt cX6_stepAt 2 (some (.object "SeesawMarket$Command")) 2 0 0 [.ref a0, .int x1] M (fun r : Nat => (some (.ref r), M)) (F_X6_stepAt N M a0 x1) := by
  refine k_of (lv := [(0, .ref a0), (1, .int x1)]) RX6 (by decide) rfl rfl (Nat.le_of_ble_eq_true rfl) ?_
  intro p e s m args below meth c hX hr _
  unfold F_X6_stepAt
  refine g_aload_n 1 0 hX dX6_stepAt_0 rfl rfl ?_
  refine g_iload_n 2 1 hX dX6_stepAt_1 rfl rfl ?_
  refine g_if_lt 23 5 hX dX6_stepAt_2 (by decide) rfl (fun _ => ?_) (fun _ => ?_)
  · refine g_iconst 24 hX 0 dX6_stepAt_23 rfl kc_i_0 ?_
    refine g_callV_rp 27 hX (k_X6_commandAt l g N M a0 0) lk_X6_commandAt rfl (ci := 6) rfl (Nat.le_of_ble_eq_true rfl) q_772 q_8 (by omega) rfl (Nat.le_of_ble_eq_true rfl) (Nat.zero_le _) (Nat.zero_le _) dX6_stepAt_24 rfl (fun r1 => ?_)
    exact g_aret hX hr (Or.inl ⟨_, rfl⟩) rfl (Nat.le_refl 0) (Nat.le_refl 0) dX6_stepAt_27
  · refine g_iload_n 6 1 hX dX6_stepAt_5 rfl rfl ?_
    refine g_aload_n 7 0 hX dX6_stepAt_6 rfl rfl ?_
    refine r_X6_21 10 hX dX6_stepAt_7 rfl ?_
    refine g_alen13 11 hX dX6_stepAt_10 rfl ?_
    refine g_icmp_ge 23 14 hX dX6_stepAt_11 (by decide) rfl (fun _ => ?_) (fun _ => ?_)
    · refine g_iconst 24 hX 0 dX6_stepAt_23 rfl kc_i_0 ?_
      refine g_callV_rp 27 hX (k_X6_commandAt l g N M a0 0) lk_X6_commandAt rfl (ci := 6) rfl (Nat.le_of_ble_eq_true rfl) q_772 q_8 (by omega) rfl (Nat.le_of_ble_eq_true rfl) (Nat.zero_le _) (Nat.zero_le _) dX6_stepAt_24 rfl (fun r2 => ?_)
      exact g_aret hX hr (Or.inl ⟨_, rfl⟩) rfl (Nat.le_refl 0) (Nat.le_refl 0) dX6_stepAt_27
    · refine g_aload_n 15 0 hX dX6_stepAt_14 rfl rfl ?_
      refine r_X6_21 18 hX dX6_stepAt_15 rfl ?_
      refine g_iload_n 19 1 hX dX6_stepAt_18 rfl rfl ?_
      refine g_iald 20 hX dX6_stepAt_19 rfl ?_
      refine g_goto 24 hX dX6_stepAt_20 (by decide) ?_
      refine g_callV_rp 27 hX (k_X6_commandAt l g N M a0 (kI M (kR M a0 4) (kx x1))) lk_X6_commandAt rfl (ci := 6) rfl (Nat.le_of_ble_eq_true rfl) q_772 q_8 (by omega) rfl (Nat.le_of_ble_eq_true rfl) (Nat.zero_le _) (Nat.zero_le _) dX6_stepAt_24 rfl (fun r3 => ?_)
      exact g_aret hX hr (Or.inl ⟨_, rfl⟩) rfl (Nat.le_refl 0) (Nat.le_refl 0) dX6_stepAt_27
set_option maxRecDepth 100000 in
set_option maxHeartbeats 4000000 in
theorem k_X6_openBracket (l : Launch) (g : kG) (N : Nat) (M : kMem) (a0 : Nat) (a1 : Nat) : kMet l g yX6_openBracket cX6_openBracket 2 none 4 0 0 [.ref a0, .ref a1] M (fun r : kMem => (none, r)) (F_X6_openBracket N M a0 a1) := by
  refine k_of (lv := [(0, .ref a0), (1, .ref a1)]) RX6 (by decide) rfl rfl (Nat.le_of_ble_eq_true rfl) ?_
  intro p e s m args below meth c hX hr _
  unfold F_X6_openBracket
  refine g_aload_n 1 0 hX dX6_openBracket_0 rfl rfl ?_
  refine r_X6_33 4 hX dX6_openBracket_1 rfl ?_
  refine g_aload_n 5 0 hX dX6_openBracket_4 rfl rfl ?_
  refine r_X6_17 8 hX dX6_openBracket_5 rfl ?_
  refine g_alen13 9 hX dX6_openBracket_8 rfl ?_
  refine g_icmp_lt 31 12 hX dX6_openBracket_9 (by decide) rfl (fun _ => ?_) (fun _ => ?_)
  · refine g_aload_n 32 1 hX dX6_openBracket_31 rfl rfl ?_
    refine g_bipush 34 hX 40 dX6_openBracket_32 rfl kc_b_40 ?_
    refine g_callV_v 37 hX (k_X9_takeSign l g N M a1 40) lk_X9_takeSign rfl (ci := 9) rfl (Nat.le_of_ble_eq_true rfl) q_771 q_598 (by omega) rfl (Nat.le_of_ble_eq_true rfl) (Nat.zero_le _) (Nat.zero_le _) dX6_openBracket_34 rfl (fun M1 => ?_)
    refine g_aload_n 38 0 hX dX6_openBracket_37 rfl rfl ?_
    refine r_X6_17 41 hX dX6_openBracket_38 rfl ?_
    refine g_aload_n 42 0 hX dX6_openBracket_41 rfl rfl ?_
    refine r_X6_33 45 hX dX6_openBracket_42 rfl ?_
    refine g_aload_n 46 0 hX dX6_openBracket_45 rfl rfl ?_
    refine r_X6_29 49 hX dX6_openBracket_46 rfl ?_
    refine g_iconst 50 hX 1 dX6_openBracket_49 rfl kc_i_1 ?_
    refine g_isub 51 hX dX6_openBracket_50 rfl ?_
    refine g_iast 52 hX dX6_openBracket_51 rfl ?_
    refine g_klM (fun M2 hM2 => ?_)
    refine g_aload_n 53 0 hX dX6_openBracket_52 rfl rfl ?_
    refine g_dup 54 hX dX6_openBracket_53 rfl rfl ?_
    refine r_X6_33 57 hX dX6_openBracket_54 rfl ?_
    refine g_iconst 58 hX 1 dX6_openBracket_57 rfl kc_i_1 ?_
    refine g_iadd 59 hX dX6_openBracket_58 rfl ?_
    refine p_X6_33 62 hX dX6_openBracket_59 rfl ?_
    refine g_klM (fun M3 hM3 => ?_)
    exact g_vret hX hr rfl (Nat.le_refl 0) (Nat.le_refl 0) dX6_openBracket_62
  · refine g_aload_n 13 1 hX dX6_openBracket_12 rfl rfl ?_
    refine g_aload_n 14 1 hX dX6_openBracket_13 rfl rfl ?_
    refine g_bipush 16 hX 40 dX6_openBracket_14 rfl kc_b_40 ?_
    refine g_callV_ip 19 hX (k_X9_atSign l g N M a1 40) lk_X9_atSign rfl (ci := 9) rfl (Nat.le_of_ble_eq_true rfl) q_766 q_602 (by omega) rfl (Nat.le_of_ble_eq_true rfl) (Nat.zero_le _) (Nat.zero_le _) dX6_openBracket_16 rfl (fun r4 => ?_)
    refine g_if_eq 26 22 hX dX6_openBracket_19 (by decide) rfl (fun _ => ?_) (fun _ => ?_)
    · refine g_iconst 27 hX 1 dX6_openBracket_26 rfl kc_i_1 ?_
      refine g_callV_v 30 hX (k_X9_refuse l g N M a1 1) lk_X9_refuse rfl (ci := 9) rfl (Nat.le_of_ble_eq_true rfl) q_792 q_593 (by omega) rfl (Nat.le_of_ble_eq_true rfl) (Nat.zero_le _) (Nat.zero_le _) dX6_openBracket_27 rfl (fun M5 => ?_)
      exact g_vret hX hr rfl (Nat.le_refl 0) (Nat.le_refl 0) dX6_openBracket_30
    · refine g_iconst 23 hX 5 dX6_openBracket_22 rfl kc_i_5 ?_
      refine g_goto 27 hX dX6_openBracket_23 (by decide) ?_
      refine g_callV_v 30 hX (k_X9_refuse l g N M a1 5) lk_X9_refuse rfl (ci := 9) rfl (Nat.le_of_ble_eq_true rfl) q_792 q_593 (by omega) rfl (Nat.le_of_ble_eq_true rfl) (Nat.zero_le _) (Nat.zero_le _) dX6_openBracket_27 rfl (fun M6 => ?_)
      exact g_vret hX hr rfl (Nat.le_refl 0) (Nat.le_refl 0) dX6_openBracket_30
set_option maxRecDepth 100000 in
set_option maxHeartbeats 4000000 in
theorem k_X6_closeBracket (l : Launch) (g : kG) (N : Nat) (M : kMem) (a0 : Nat) (a1 : Nat) : kMet l g yX6_closeBracket cX6_closeBracket 2 none 4 0 0 [.ref a0, .ref a1] M (fun r : kMem => (none, r)) (F_X6_closeBracket N M a0 a1) := by
  refine k_of (lv := [(0, .ref a0), (1, .ref a1)]) RX6 (by decide) rfl rfl (Nat.le_of_ble_eq_true rfl) ?_
  intro p e s m args below meth c hX hr _
  unfold F_X6_closeBracket
  refine g_aload_n 1 1 hX dX6_closeBracket_0 rfl rfl ?_
  refine g_bipush 3 hX 41 dX6_closeBracket_1 rfl kc_b_41 ?_
  refine g_callV_v 6 hX (k_X9_takeSign l g N M a1 41) lk_X9_takeSign rfl (ci := 9) rfl (Nat.le_of_ble_eq_true rfl) q_771 q_598 (by omega) rfl (Nat.le_of_ble_eq_true rfl) (Nat.zero_le _) (Nat.zero_le _) dX6_closeBracket_3 rfl (fun M1 => ?_)
  refine g_aload_n 7 1 hX dX6_closeBracket_6 rfl rfl ?_
  refine g_bipush 9 hX 59 dX6_closeBracket_7 rfl kc_b_59 ?_
  refine g_callV_v 12 hX (k_X9_takeSign l g N M1 a1 59) lk_X9_takeSign rfl (ci := 9) rfl (Nat.le_of_ble_eq_true rfl) q_771 q_598 (by omega) rfl (Nat.le_of_ble_eq_true rfl) (Nat.zero_le _) (Nat.zero_le _) dX6_closeBracket_9 rfl (fun M2 => ?_)
  refine g_aload_n 13 0 hX dX6_closeBracket_12 rfl rfl ?_
  refine r_X6_33 16 hX dX6_closeBracket_13 rfl ?_
  refine g_if_le 61 19 hX dX6_closeBracket_16 (by decide) rfl (fun _ => ?_) (fun _ => ?_)
  · exact g_vret hX hr rfl (Nat.le_refl 0) (Nat.le_refl 0) dX6_closeBracket_61
  · refine g_aload_n 20 0 hX dX6_closeBracket_19 rfl rfl ?_
    refine r_X6_33 23 hX dX6_closeBracket_20 rfl ?_
    refine g_aload_n 24 0 hX dX6_closeBracket_23 rfl rfl ?_
    refine r_X6_17 27 hX dX6_closeBracket_24 rfl ?_
    refine g_alen13 28 hX dX6_closeBracket_27 rfl ?_
    refine g_icmp_gt 61 31 hX dX6_closeBracket_28 (by decide) rfl (fun _ => ?_) (fun _ => ?_)
    · exact g_vret hX hr rfl (Nat.le_refl 0) (Nat.le_refl 0) dX6_closeBracket_61
    · refine g_aload_n 32 0 hX dX6_closeBracket_31 rfl rfl ?_
      refine g_dup 33 hX dX6_closeBracket_32 rfl rfl ?_
      refine r_X6_33 36 hX dX6_closeBracket_33 rfl ?_
      refine g_iconst 37 hX 1 dX6_closeBracket_36 rfl kc_i_1 ?_
      refine g_isub 38 hX dX6_closeBracket_37 rfl ?_
      refine p_X6_33 41 hX dX6_closeBracket_38 rfl ?_
      refine g_klM (fun M3 hM3 => ?_)
      refine g_aload_n 42 0 hX dX6_closeBracket_41 rfl rfl ?_
      refine g_aload_n 43 0 hX dX6_closeBracket_42 rfl rfl ?_
      refine r_X6_17 46 hX dX6_closeBracket_43 rfl ?_
      refine g_aload_n 47 0 hX dX6_closeBracket_46 rfl rfl ?_
      refine r_X6_33 50 hX dX6_closeBracket_47 rfl ?_
      refine g_iald 51 hX dX6_closeBracket_50 rfl ?_
      refine g_callV_rp 54 hX (k_X6_commandAt l g N M3 a0 (kI M3 (kR M3 a0 2) (kx (kI M3 a0 3)))) lk_X6_commandAt rfl (ci := 6) rfl (Nat.le_of_ble_eq_true rfl) q_772 q_8 (by omega) rfl (Nat.le_of_ble_eq_true rfl) (Nat.zero_le _) (Nat.zero_le _) dX6_closeBracket_51 rfl (fun r4 => ?_)
      refine g_aload_n 55 0 hX dX6_closeBracket_54 rfl rfl ?_
      refine r_X6_29 58 hX dX6_closeBracket_55 rfl ?_
      refine p_X6_87 61 hX dX6_closeBracket_58 rfl ?_
      refine g_klM (fun M5 hM5 => ?_)
      exact g_vret hX hr rfl (Nat.le_refl 0) (Nat.le_refl 0) dX6_closeBracket_61
set_option maxRecDepth 100000 in
set_option maxHeartbeats 4000000 in
theorem k_X6_unroll_79 {dd : Nat} {p : Program} {l : Launch} {e : Env} {s : State} {m : MethodId} {args : Array Value} {below : List Frame} {meth : Method} {c : Code} {g : kG} (hX : Cok (p, l, e, { frames := 2 * (2 + dd + 1), cells := 0, slots := 0, locals := 60 * (2 + dd + 1) }, s, m, args, below, meth, c, cX6_unroll, 8, RX6, g, (2 + dd + 1))) (hr : meth.sig.returnType = none) (N : Nat) (kf : kMem → Nat → Int32 → Int32 → Int32 → Option (kMem)) (hrec : ∀ (M : kMem) (a0 : Nat) (x1 : Int32) (x2 : Int32) (x3 : Int32), kMet l g yX6_unroll cX6_unroll 8 none (2 + dd) 0 0 [.ref a0, .int x1, .int x2, .int x3] M (fun r : kMem => (none, r)) (kf M a0 x1 x2 x3)) (k6 : kMem → Nat → Int32 → Int32 → Int32 → Int32 → Option (kMem)) (h6 : ∀ (M : kMem) (a0 : Nat) (x2 : Int32) (x3 : Int32) (x4 : Int32) (x5 : Int32), GG (p, l, e, { frames := 2 * (2 + dd + 1), cells := 0, slots := 0, locals := 60 * (2 + dd + 1) }, s, m, args, below, meth, c, cX6_unroll, 8, RX6, g, (2 + dd + 1)) (fun b => MQ below (kQ g ((fun r : kMem => (none, r)) b)) args s 0 0 (kZ g.2.2.1)) 0 0 (k6 M a0 x2 x3 x4 x5) 6 [(0, .ref a0), (2, .int x2), (3, .int x3), (4, .int x4), (5, .int x5)] [] M) : ∀ (n : Nat) (M : kMem) (a0 : Nat) (x2 : Int32) (x3 : Int32) (x5 : Int32) (a6 : Nat) (x7 : Int32), GG (p, l, e, { frames := 2 * (2 + dd + 1), cells := 0, slots := 0, locals := 60 * (2 + dd + 1) }, s, m, args, below, meth, c, cX6_unroll, 8, RX6, g, (2 + dd + 1)) (fun b => MQ below (kQ g ((fun r : kMem => (none, r)) b)) args s 0 0 (kZ g.2.2.1)) 0 0 (F_X6_unroll_79 N kf k6 n M a0 x2 x3 x5 a6 x7) 79 [(0, .ref a0), (2, .int x2), (3, .int x3), (5, .int x5), (6, .ref a6), (7, .int x7)] [] M := by
  intro n
  induction n with
  | zero => intro _ _ _ _ _ _ _; exact g_none
  | succ n ih =>
    intro M a0 x2 x3 x5 a6 x7
    unfold F_X6_unroll_79
    refine g_iload 81 5 hX dX6_unroll_79 rfl rfl ?_
    refine g_aload 83 4 hX dX6_unroll_81 rfl rfl ?_
    refine r_X6_90 86 hX dX6_unroll_83 rfl ?_
    refine g_icmp_ge 116 89 hX dX6_unroll_86 (by decide) rfl (fun _ => ?_) (fun _ => ?_)
    · refine g_aload 118 4 hX dX6_unroll_116 rfl rfl ?_
      refine r_X6_87 121 hX dX6_unroll_118 rfl ?_
      refine g_klI (fun v2 hv2 => ?_)
      refine g_istore 123 4 [(4, .int v2), (0, .ref a0), (2, .int x2), (3, .int x3), (5, .int x5), (6, .ref a6), (7, .int x7)] hX dX6_unroll_121 rfl (Nat.le_of_ble_eq_true rfl) rfl ?_
      refine g_kl (fun v3 hv3 => ?_)
      refine g_iinc 126 5 4 v3 [(5, .int v3), (4, .int v2), (0, .ref a0), (2, .int x2), (3, .int x3), (6, .ref a6), (7, .int x7)] hX dX6_unroll_123 rfl rfl (by rw [hv3, kc_i_1]) (Nat.le_of_ble_eq_true rfl) rfl ?_
      refine g_goto 6 hX dX6_unroll_126 (by decide) ?_
      refine g_lv [2, 3, 4, 1, 0] rfl ?_
      exact h6 M a0 x2 x3 v2 v3
    · refine g_iload_n 90 2 hX dX6_unroll_89 rfl rfl ?_
      refine g_iconst 91 hX 2 dX6_unroll_90 rfl kc_i_2 ?_
      refine g_icmp_ge 116 94 hX dX6_unroll_91 (by decide) rfl (fun _ => ?_) (fun _ => ?_)
      · refine g_aload 118 4 hX dX6_unroll_116 rfl rfl ?_
        refine r_X6_87 121 hX dX6_unroll_118 rfl ?_
        refine g_klI (fun v4 hv4 => ?_)
        refine g_istore 123 4 [(4, .int v4), (0, .ref a0), (2, .int x2), (3, .int x3), (5, .int x5), (6, .ref a6), (7, .int x7)] hX dX6_unroll_121 rfl (Nat.le_of_ble_eq_true rfl) rfl ?_
        refine g_kl (fun v5 hv5 => ?_)
        refine g_iinc 126 5 4 v5 [(5, .int v5), (4, .int v4), (0, .ref a0), (2, .int x2), (3, .int x3), (6, .ref a6), (7, .int x7)] hX dX6_unroll_123 rfl rfl (by rw [hv5, kc_i_1]) (Nat.le_of_ble_eq_true rfl) rfl ?_
        refine g_goto 6 hX dX6_unroll_126 (by decide) ?_
        refine g_lv [2, 3, 4, 1, 0] rfl ?_
        exact h6 M a0 x2 x3 v4 v5
      · refine g_aload_n 95 0 hX dX6_unroll_94 rfl rfl ?_
        refine g_iload 97 3 hX dX6_unroll_95 rfl rfl ?_
        refine g_iconst 98 hX 1 dX6_unroll_97 rfl kc_i_1 ?_
        refine g_iadd 99 hX dX6_unroll_98 rfl ?_
        refine g_aload 101 4 hX dX6_unroll_99 rfl rfl ?_
        refine r_X6_87 104 hX dX6_unroll_101 rfl ?_
        refine g_iload_n 105 2 hX dX6_unroll_104 rfl rfl ?_
        refine g_iconst 106 hX 1 dX6_unroll_105 rfl kc_i_1 ?_
        refine g_iadd 107 hX dX6_unroll_106 rfl ?_
        refine g_callV_v 110 hX (hrec M a0 (x5 + 1) (kI M a6 6) (x3 + 1)) lk_X6_unroll rfl (ci := 6) rfl (Nat.le_of_ble_eq_true rfl) q_811 q_12 (Nat.le_refl _) rfl (Nat.le_of_ble_eq_true rfl) (Nat.zero_le _) (Nat.zero_le _) dX6_unroll_107 rfl (fun M6 => ?_)
        refine g_kl (fun v7 hv7 => ?_)
        refine g_iinc 113 7 5 v7 [(7, .int v7), (0, .ref a0), (2, .int x2), (3, .int x3), (5, .int x5), (6, .ref a6)] hX dX6_unroll_110 rfl rfl (by rw [hv7, kc_i_1]) (Nat.le_of_ble_eq_true rfl) rfl ?_
        refine g_goto 79 hX dX6_unroll_113 (by decide) ?_
        refine g_lv [1, 2, 3, 4, 5, 0] rfl ?_
        exact ih M6 a0 x2 x3 x5 a6 v7
set_option maxRecDepth 100000 in
set_option maxHeartbeats 4000000 in
theorem k_X6_unroll_6 {dd : Nat} {p : Program} {l : Launch} {e : Env} {s : State} {m : MethodId} {args : Array Value} {below : List Frame} {meth : Method} {c : Code} {g : kG} (hX : Cok (p, l, e, { frames := 2 * (2 + dd + 1), cells := 0, slots := 0, locals := 60 * (2 + dd + 1) }, s, m, args, below, meth, c, cX6_unroll, 8, RX6, g, (2 + dd + 1))) (hr : meth.sig.returnType = none) (N : Nat) (kf : kMem → Nat → Int32 → Int32 → Int32 → Option (kMem)) (hrec : ∀ (M : kMem) (a0 : Nat) (x1 : Int32) (x2 : Int32) (x3 : Int32), kMet l g yX6_unroll cX6_unroll 8 none (2 + dd) 0 0 [.ref a0, .int x1, .int x2, .int x3] M (fun r : kMem => (none, r)) (kf M a0 x1 x2 x3)) : ∀ (n : Nat) (M : kMem) (a0 : Nat) (x2 : Int32) (x3 : Int32) (x4 : Int32) (x5 : Int32), GG (p, l, e, { frames := 2 * (2 + dd + 1), cells := 0, slots := 0, locals := 60 * (2 + dd + 1) }, s, m, args, below, meth, c, cX6_unroll, 8, RX6, g, (2 + dd + 1)) (fun b => MQ below (kQ g ((fun r : kMem => (none, r)) b)) args s 0 0 (kZ g.2.2.1)) 0 0 (F_X6_unroll_6 N kf n M a0 x2 x3 x4 x5) 6 [(0, .ref a0), (2, .int x2), (3, .int x3), (4, .int x4), (5, .int x5)] [] M := by
  intro n
  induction n with
  | zero => intro _ _ _ _ _ _; exact g_none
  | succ n ih =>
    intro M a0 x2 x3 x4 x5
    unfold F_X6_unroll_6
    refine g_iload 8 4 hX dX6_unroll_6 rfl rfl ?_
    refine g_iload_n 9 1 hX dX6_unroll_8 rfl rfl ?_
    refine g_icmp_ge 129 12 hX dX6_unroll_9 (by decide) rfl (fun _ => ?_) (fun _ => ?_)
    · exact g_vret hX hr rfl (Nat.le_refl 0) (Nat.le_refl 0) dX6_unroll_129
    · refine g_aload_n 13 0 hX dX6_unroll_12 rfl rfl ?_
      refine r_X6_36 16 hX dX6_unroll_13 rfl ?_
      refine g_aload_n 17 0 hX dX6_unroll_16 rfl rfl ?_
      refine r_X6_21 20 hX dX6_unroll_17 rfl ?_
      refine g_alen13 21 hX dX6_unroll_20 rfl ?_
      refine g_icmp_ge 129 24 hX dX6_unroll_21 (by decide) rfl (fun _ => ?_) (fun _ => ?_)
      · exact g_vret hX hr rfl (Nat.le_refl 0) (Nat.le_refl 0) dX6_unroll_129
      · refine g_iload 26 4 hX dX6_unroll_24 rfl rfl ?_
        refine g_iload 28 3 hX dX6_unroll_26 rfl rfl ?_
        refine g_icmp_ge 34 31 hX dX6_unroll_28 (by decide) rfl (fun _ => ?_) (fun _ => ?_)
        · refine g_aload_n 35 0 hX dX6_unroll_34 rfl rfl ?_
          refine g_iload 37 4 hX dX6_unroll_35 rfl rfl ?_
          refine g_callV_rp 40 hX (k_X6_commandAt l g N M a0 x5) lk_X6_commandAt rfl (ci := 6) rfl (Nat.le_of_ble_eq_true rfl) q_772 q_8 (by omega) rfl (Nat.le_of_ble_eq_true rfl) (Nat.zero_le _) (Nat.zero_le _) dX6_unroll_37 rfl (fun r1 => ?_)
          refine g_astore 42 6 [(6, .ref r1), (0, .ref a0), (2, .int x2), (3, .int x3), (4, .int x4), (5, .int x5)] hX dX6_unroll_40 rfl (Nat.le_of_ble_eq_true rfl) rfl ?_
          refine g_aload 44 0 hX dX6_unroll_42 rfl rfl ?_
          refine r_X6_71 47 hX dX6_unroll_44 rfl ?_
          refine g_bipush 49 hX 8 dX6_unroll_47 rfl kc_b_8 ?_
          refine g_icmp_eq 76 52 hX dX6_unroll_49 (by decide) rfl (fun _ => ?_) (fun _ => ?_)
          · refine g_iconst 77 hX 0 dX6_unroll_76 rfl kc_i_0 ?_
            refine g_istore 79 7 [(7, .int 0), (6, .ref r1), (0, .ref a0), (2, .int x2), (3, .int x3), (4, .int x4), (5, .int x5)] hX dX6_unroll_77 rfl (Nat.le_of_ble_eq_true rfl) rfl ?_
            refine g_lv [2, 3, 4, 6, 1, 0] rfl ?_
            exact k_X6_unroll_79 hX hr N kf hrec (fun M a0 x2 x3 x4 x5 => F_X6_unroll_6 N kf n M a0 x2 x3 x4 x5) ih N M a0 x2 x3 x5 r1 0
          · refine g_aload_n 53 1 hX dX6_unroll_52 rfl rfl ?_
            refine r_X6_21 56 hX dX6_unroll_53 rfl ?_
            refine g_aload_n 57 1 hX dX6_unroll_56 rfl rfl ?_
            refine r_X6_36 60 hX dX6_unroll_57 rfl ?_
            refine g_iload 62 5 hX dX6_unroll_60 rfl rfl ?_
            refine g_iast 63 hX dX6_unroll_62 rfl ?_
            refine g_klM (fun M8 hM8 => ?_)
            refine g_aload_n 64 1 hX dX6_unroll_63 rfl rfl ?_
            refine g_dup 65 hX dX6_unroll_64 rfl rfl ?_
            refine r_X6_36 68 hX dX6_unroll_65 rfl ?_
            refine g_iconst 69 hX 1 dX6_unroll_68 rfl kc_i_1 ?_
            refine g_iadd 70 hX dX6_unroll_69 rfl ?_
            refine p_X6_36 73 hX dX6_unroll_70 rfl ?_
            refine g_klM (fun M9 hM9 => ?_)
            refine g_goto 123 hX dX6_unroll_73 (by decide) ?_
            refine g_kl (fun v10 hv10 => ?_)
            refine g_iinc 126 5 5 v10 [(5, .int v10), (6, .ref r1), (0, .ref a0), (2, .int x2), (3, .int x3), (4, .int x4)] hX dX6_unroll_123 rfl rfl (by rw [hv10, kc_i_1]) (Nat.le_of_ble_eq_true rfl) rfl ?_
            refine g_goto 6 hX dX6_unroll_126 (by decide) ?_
            refine g_lv [2, 3, 4, 5, 0] rfl ?_
            exact ih M9 a0 x2 x3 x4 v10
        · refine g_goto 123 hX dX6_unroll_31 (by decide) ?_
          refine g_kl (fun v11 hv11 => ?_)
          refine g_iinc 126 5 4 v11 [(5, .int v11), (0, .ref a0), (2, .int x2), (3, .int x3), (4, .int x4)] hX dX6_unroll_123 rfl rfl (by rw [hv11, kc_i_1]) (Nat.le_of_ble_eq_true rfl) rfl ?_
          refine g_goto 6 hX dX6_unroll_126 (by decide) ?_
          refine g_lv [1, 2, 3, 4, 0] rfl ?_
          exact ih M a0 x2 x3 x4 v11
set_option maxRecDepth 100000 in
set_option maxHeartbeats 4000000 in
theorem k_X6_unroll (l : Launch) (g : kG) (N : Nat) : ∀ (D : Nat) (M : kMem) (a0 : Nat) (x1 : Int32) (x2 : Int32) (x3 : Int32), kMet l g yX6_unroll cX6_unroll 8 none (2 + D) 0 0 [.ref a0, .int x1, .int x2, .int x3] M (fun r : kMem => (none, r)) (F_X6_unroll N D M a0 x1 x2 x3) := by
  intro D
  induction D with
  | zero => intro M a0 x1 x2 x3 b hb; cases hb
  | succ dd ih =>
    intro M a0 x1 x2 x3
    refine k_of (lv := [(0, .ref a0), (1, .int x1), (2, .int x2), (3, .int x3)]) RX6 (by decide) rfl rfl (Nat.le_of_ble_eq_true rfl) ?_
    intro p e s m args below meth c hX hr _
    show GG _ _ _ _ (F_X6_unroll N (dd + 1) M a0 x1 x2 x3) _ _ _ _
    unfold F_X6_unroll
    refine g_kl (fun kf hkf => ?_)
    have hrec : ∀ (M : kMem) (a0 : Nat) (x1 : Int32) (x2 : Int32) (x3 : Int32), kMet l g yX6_unroll cX6_unroll 8 none (2 + dd) 0 0 [.ref a0, .int x1, .int x2, .int x3] M (fun r : kMem => (none, r)) (kf M a0 x1 x2 x3) := by rw [hkf]; exact ih
    refine g_iload_n 1 1 hX dX6_unroll_0 rfl rfl ?_
    refine g_istore 3 4 [(4, .int x1), (0, .ref a0), (1, .int x1), (2, .int x2), (3, .int x3)] hX dX6_unroll_1 rfl (Nat.le_of_ble_eq_true rfl) rfl ?_
    refine g_iload_n 4 2 hX dX6_unroll_3 rfl rfl ?_
    refine g_istore 6 5 [(5, .int x1), (4, .int x1), (0, .ref a0), (1, .int x1), (2, .int x2), (3, .int x3)] hX dX6_unroll_4 rfl (Nat.le_of_ble_eq_true rfl) rfl ?_
    refine g_lv [2, 4, 5, 1, 0] rfl ?_
    exact k_X6_unroll_6 hX hr N kf hrec N M a0 x2 x3 x1 x1
set_option maxRecDepth 100000 in
set_option maxHeartbeats 4000000 in
theorem k_X11_errorCode (l : Launch) (g : kG) (N : Nat) (M : kMem) (a0 : Nat) : kMet l g yX11_errorCode cX11_errorCode 1 (some .int) 1 0 0 [.ref a0] M (fun r : Int32 => (some (.int r), M)) (F_X11_errorCode N M a0) := by
  refine k_of (lv := [(0, .ref a0)]) RX11 (by decide) rfl rfl (Nat.le_of_ble_eq_true rfl) ?_
  intro p e s m args below meth c hX hr _
  unfold F_X11_errorCode
  refine g_aload_n 1 0 hX dX11_errorCode_0 rfl rfl ?_
  refine r_X11_24 4 hX dX11_errorCode_1 rfl ?_
  refine r_X11_95 7 hX dX11_errorCode_4 rfl ?_
  exact g_iret hX hr rfl (Nat.le_refl 0) (Nat.le_refl 0) dX11_errorCode_7
set_option maxRecDepth 100000 in
set_option maxHeartbeats 4000000 in
theorem k_X11_errorPosition (l : Launch) (g : kG) (N : Nat) (M : kMem) (a0 : Nat) : kMet l g yX11_errorPosition cX11_errorPosition 1 (some .int) 1 0 0 [.ref a0] M (fun r : Int32 => (some (.int r), M)) (F_X11_errorPosition N M a0) := by
  refine k_of (lv := [(0, .ref a0)]) RX11 (by decide) rfl rfl (Nat.le_of_ble_eq_true rfl) ?_
  intro p e s m args below meth c hX hr _
  unfold F_X11_errorPosition
  refine g_aload_n 1 0 hX dX11_errorPosition_0 rfl rfl ?_
  refine r_X11_24 4 hX dX11_errorPosition_1 rfl ?_
  refine r_X11_126 7 hX dX11_errorPosition_4 rfl ?_
  exact g_iret hX hr rfl (Nat.le_refl 0) (Nat.le_refl 0) dX11_errorPosition_7
set_option maxRecDepth 100000 in
set_option maxHeartbeats 4000000 in
theorem k_X11_day (l : Launch) (g : kG) (N : Nat) (M : kMem) (a0 : Nat) : kMet l g yX11_day cX11_day 1 (some .int) 1 0 0 [.ref a0] M (fun r : Int32 => (some (.int r), M)) (F_X11_day N M a0) := by
  refine k_of (lv := [(0, .ref a0)]) RX11 (by decide) rfl rfl (Nat.le_of_ble_eq_true rfl) ?_
  intro p e s m args below meth c hX hr _
  unfold F_X11_day
  refine g_aload_n 1 0 hX dX11_day_0 rfl rfl ?_
  refine r_X11_38 4 hX dX11_day_1 rfl ?_
  refine r_X11_129 7 hX dX11_day_4 rfl ?_
  exact g_iret hX hr rfl (Nat.le_refl 0) (Nat.le_refl 0) dX11_day_7
set_option maxRecDepth 100000 in
set_option maxHeartbeats 4000000 in
theorem k_X11_bank (l : Launch) (g : kG) (N : Nat) (M : kMem) (a0 : Nat) : kMet l g yX11_bank cX11_bank 1 (some .int) 1 0 0 [.ref a0] M (fun r : Int32 => (some (.int r), M)) (F_X11_bank N M a0) := by
  refine k_of (lv := [(0, .ref a0)]) RX11 (by decide) rfl rfl (Nat.le_of_ble_eq_true rfl) ?_
  intro p e s m args below meth c hX hr _
  unfold F_X11_bank
  refine g_aload_n 1 0 hX dX11_bank_0 rfl rfl ?_
  refine r_X11_38 4 hX dX11_bank_1 rfl ?_
  refine r_X11_132 7 hX dX11_bank_4 rfl ?_
  exact g_iret hX hr rfl (Nat.le_refl 0) (Nat.le_refl 0) dX11_bank_7
set_option maxRecDepth 100000 in
set_option maxHeartbeats 4000000 in
theorem k_X11_wage (l : Launch) (g : kG) (N : Nat) (M : kMem) (a0 : Nat) : kMet l g yX11_wage cX11_wage 1 (some .int) 1 0 0 [.ref a0] M (fun r : Int32 => (some (.int r), M)) (F_X11_wage N M a0) := by
  refine k_of (lv := [(0, .ref a0)]) RX11 (by decide) rfl rfl (Nat.le_of_ble_eq_true rfl) ?_
  intro p e s m args below meth c hX hr _
  unfold F_X11_wage
  refine g_aload_n 1 0 hX dX11_wage_0 rfl rfl ?_
  refine r_X11_38 4 hX dX11_wage_1 rfl ?_
  refine r_X11_135 7 hX dX11_wage_4 rfl ?_
  exact g_iret hX hr rfl (Nat.le_refl 0) (Nat.le_refl 0) dX11_wage_7
set_option maxRecDepth 100000 in
set_option maxHeartbeats 4000000 in
theorem k_X11_basePrice (l : Launch) (g : kG) (N : Nat) (M : kMem) (a0 : Nat) : kMet l g yX11_basePrice cX11_basePrice 1 (some .int) 1 0 0 [.ref a0] M (fun r : Int32 => (some (.int r), M)) (F_X11_basePrice N M a0) := by
  refine k_of (lv := [(0, .ref a0)]) RX11 (by decide) rfl rfl (Nat.le_of_ble_eq_true rfl) ?_
  intro p e s m args below meth c hX hr _
  unfold F_X11_basePrice
  refine g_aload_n 1 0 hX dX11_basePrice_0 rfl rfl ?_
  refine r_X11_38 4 hX dX11_basePrice_1 rfl ?_
  refine r_X11_138 7 hX dX11_basePrice_4 rfl ?_
  exact g_iret hX hr rfl (Nat.le_refl 0) (Nat.le_refl 0) dX11_basePrice_7
set_option maxRecDepth 100000 in
set_option maxHeartbeats 4000000 in
theorem k_X11_retirementAge (l : Launch) (g : kG) (N : Nat) (M : kMem) (a0 : Nat) : kMet l g yX11_retirementAge cX11_retirementAge 1 (some .int) 1 0 0 [.ref a0] M (fun r : Int32 => (some (.int r), M)) (F_X11_retirementAge N M a0) := by
  refine k_of (lv := [(0, .ref a0)]) RX11 (by decide) rfl rfl (Nat.le_of_ble_eq_true rfl) ?_
  intro p e s m args below meth c hX hr _
  unfold F_X11_retirementAge
  refine g_aload_n 1 0 hX dX11_retirementAge_0 rfl rfl ?_
  refine r_X11_38 4 hX dX11_retirementAge_1 rfl ?_
  refine r_X11_141 7 hX dX11_retirementAge_4 rfl ?_
  exact g_iret hX hr rfl (Nat.le_refl 0) (Nat.le_refl 0) dX11_retirementAge_7
set_option maxRecDepth 100000 in
set_option maxHeartbeats 4000000 in
theorem k_X11_boardCount (l : Launch) (g : kG) (N : Nat) (M : kMem) (a0 : Nat) : kMet l g yX11_boardCount cX11_boardCount 1 (some .int) 1 0 0 [.ref a0] M (fun r : Int32 => (some (.int r), M)) (F_X11_boardCount N M a0) := by
  refine k_of (lv := [(0, .ref a0)]) RX11 (by decide) rfl rfl (Nat.le_of_ble_eq_true rfl) ?_
  intro p e s m args below meth c hX hr _
  unfold F_X11_boardCount
  refine g_aload_n 1 0 hX dX11_boardCount_0 rfl rfl ?_
  refine r_X11_38 4 hX dX11_boardCount_1 rfl ?_
  refine r_X11_144 7 hX dX11_boardCount_4 rfl ?_
  exact g_iret hX hr rfl (Nat.le_refl 0) (Nat.le_refl 0) dX11_boardCount_7
set_option maxRecDepth 100000 in
set_option maxHeartbeats 4000000 in
theorem k_X11_traderCount (l : Launch) (g : kG) (N : Nat) (M : kMem) (a0 : Nat) : kMet l g yX11_traderCount cX11_traderCount 1 (some .int) 1 0 0 [.ref a0] M (fun r : Int32 => (some (.int r), M)) (F_X11_traderCount N M a0) := by
  refine k_of (lv := [(0, .ref a0)]) RX11 (by decide) rfl rfl (Nat.le_of_ble_eq_true rfl) ?_
  intro p e s m args below meth c hX hr _
  unfold F_X11_traderCount
  refine g_aload_n 1 0 hX dX11_traderCount_0 rfl rfl ?_
  refine r_X11_38 4 hX dX11_traderCount_1 rfl ?_
  refine r_X11_183 7 hX dX11_traderCount_4 rfl ?_
  exact g_iret hX hr rfl (Nat.le_refl 0) (Nat.le_refl 0) dX11_traderCount_7
set_option maxRecDepth 100000 in
set_option maxHeartbeats 4000000 in
theorem k_X11_findTrader (l : Launch) (g : kG) (N : Nat) (M : kMem) (a0 : Nat) : kMet l g yX11_findTrader cX11_findTrader 2 (some .int) 3 0 0 [.ref a0] M (fun r : Int32 => (some (.int r), M)) (F_X11_findTrader N M a0) := by
  refine k_of (lv := [(0, .ref a0)]) RX11 (by decide) rfl rfl (Nat.le_of_ble_eq_true rfl) ?_
  intro p e s m args below meth c hX hr _
  unfold F_X11_findTrader
  refine g_aload_n 1 0 hX dX11_findTrader_0 rfl rfl ?_
  refine r_X11_38 4 hX dX11_findTrader_1 rfl ?_
  refine g_aload_n 5 0 hX dX11_findTrader_4 rfl rfl ?_
  refine r_X11_10 8 hX dX11_findTrader_5 rfl ?_
  refine g_iconst 9 hX 0 dX11_findTrader_8 rfl kc_i_0 ?_
  refine g_aload_n 10 0 hX dX11_findTrader_9 rfl rfl ?_
  refine r_X11_10 13 hX dX11_findTrader_10 rfl ?_
  refine r_X11_77 16 hX dX11_findTrader_13 rfl ?_
  refine g_callV_lp 19 hX (k_X8_nameBetween l g N M (kR M a0 0) 0 (kI M (kR M a0 0) 1)) lk_X8_nameBetween rfl (ci := 8) rfl (Nat.le_of_ble_eq_true rfl) q_1022 q_636 (by omega) rfl (Nat.le_of_ble_eq_true rfl) (Nat.zero_le _) (Nat.zero_le _) dX11_findTrader_16 rfl (fun r1 => ?_)
  refine g_callV_rp 22 hX (k_X4_traderNamed l g N M (kR M a0 4) r1) lk_X4_traderNamed rfl (ci := 4) rfl (Nat.le_of_ble_eq_true rfl) q_1023 q_642 (by omega) rfl (Nat.le_of_ble_eq_true rfl) (Nat.zero_le _) (Nat.zero_le _) dX11_findTrader_19 rfl (fun r2 => ?_)
  refine g_astore_n 23 1 [(1, .ref r2), (0, .ref a0)] hX dX11_findTrader_22 rfl rfl (Nat.le_of_ble_eq_true rfl) rfl ?_
  refine g_aload_n 24 0 hX dX11_findTrader_23 rfl rfl ?_
  refine g_ifnonnull 31 27 hX dX11_findTrader_24 (by decide) rfl (fun _ => ?_) (fun _ => ?_)
  · refine g_aload_n 32 0 hX dX11_findTrader_31 rfl rfl ?_
    refine r_X11_194 35 hX dX11_findTrader_32 rfl ?_
    exact g_iret hX hr rfl (Nat.le_refl 0) (Nat.le_refl 0) dX11_findTrader_35
  · refine g_iconst 28 hX (-1) dX11_findTrader_27 rfl kc_i_m1 ?_
    refine g_goto 35 hX dX11_findTrader_28 (by decide) ?_
    exact g_iret hX hr rfl (Nat.le_refl 0) (Nat.le_refl 0) dX11_findTrader_35
set_option maxRecDepth 100000 in
set_option maxHeartbeats 4000000 in
theorem k_X11_richestAt (l : Launch) (g : kG) (N : Nat) (M : kMem) (a0 : Nat) (x1 : Int32) : kMet l g yX11_richestAt cX11_richestAt 2 (some .int) 3 0 0 [.ref a0, .int x1] M (fun r : Int32 => (some (.int r), M)) (F_X11_richestAt N M a0 x1) := by
  refine k_of (lv := [(0, .ref a0), (1, .int x1)]) RX11 (by decide) rfl rfl (Nat.le_of_ble_eq_true rfl) ?_
  intro p e s m args below meth c hX hr _
  unfold F_X11_richestAt
  refine g_aload_n 1 0 hX dX11_richestAt_0 rfl rfl ?_
  refine r_X11_38 4 hX dX11_richestAt_1 rfl ?_
  refine g_iload_n 5 1 hX dX11_richestAt_4 rfl rfl ?_
  refine g_callV_ip 8 hX (k_X4_traderWithRank l g N M (kR M a0 4) x1) lk_X4_traderWithRank rfl (ci := 4) rfl (Nat.le_of_ble_eq_true rfl) q_1028 q_1030 (by omega) rfl (Nat.le_of_ble_eq_true rfl) (Nat.zero_le _) (Nat.zero_le _) dX11_richestAt_5 rfl (fun r1 => ?_)
  exact g_iret hX hr rfl (Nat.le_refl 0) (Nat.le_refl 0) dX11_richestAt_8
set_option maxRecDepth 100000 in
set_option maxHeartbeats 4000000 in
theorem k_X11_seatsSold (l : Launch) (g : kG) (N : Nat) (M : kMem) (a0 : Nat) : kMet l g yX11_seatsSold cX11_seatsSold 1 (some .int) 1 0 0 [.ref a0] M (fun r : Int32 => (some (.int r), M)) (F_X11_seatsSold N M a0) := by
  refine k_of (lv := [(0, .ref a0)]) RX11 (by decide) rfl rfl (Nat.le_of_ble_eq_true rfl) ?_
  intro p e s m args below meth c hX hr _
  unfold F_X11_seatsSold
  refine g_aload_n 1 0 hX dX11_seatsSold_0 rfl rfl ?_
  refine r_X11_38 4 hX dX11_seatsSold_1 rfl ?_
  refine r_X11_264 7 hX dX11_seatsSold_4 rfl ?_
  exact g_iret hX hr rfl (Nat.le_refl 0) (Nat.le_refl 0) dX11_seatsSold_7
set_option maxRecDepth 100000 in
set_option maxHeartbeats 4000000 in
theorem k_X11_weightSold (l : Launch) (g : kG) (N : Nat) (M : kMem) (a0 : Nat) : kMet l g yX11_weightSold cX11_weightSold 1 (some .int) 1 0 0 [.ref a0] M (fun r : Int32 => (some (.int r), M)) (F_X11_weightSold N M a0) := by
  refine k_of (lv := [(0, .ref a0)]) RX11 (by decide) rfl rfl (Nat.le_of_ble_eq_true rfl) ?_
  intro p e s m args below meth c hX hr _
  unfold F_X11_weightSold
  refine g_aload_n 1 0 hX dX11_weightSold_0 rfl rfl ?_
  refine r_X11_38 4 hX dX11_weightSold_1 rfl ?_
  refine r_X11_267 7 hX dX11_weightSold_4 rfl ?_
  exact g_iret hX hr rfl (Nat.le_refl 0) (Nat.le_refl 0) dX11_weightSold_7
set_option maxRecDepth 100000 in
set_option maxHeartbeats 4000000 in
theorem k_X11_fallCount (l : Launch) (g : kG) (N : Nat) (M : kMem) (a0 : Nat) : kMet l g yX11_fallCount cX11_fallCount 1 (some .int) 1 0 0 [.ref a0] M (fun r : Int32 => (some (.int r), M)) (F_X11_fallCount N M a0) := by
  refine k_of (lv := [(0, .ref a0)]) RX11 (by decide) rfl rfl (Nat.le_of_ble_eq_true rfl) ?_
  intro p e s m args below meth c hX hr _
  unfold F_X11_fallCount
  refine g_aload_n 1 0 hX dX11_fallCount_0 rfl rfl ?_
  refine r_X11_38 4 hX dX11_fallCount_1 rfl ?_
  refine r_X11_270 7 hX dX11_fallCount_4 rfl ?_
  exact g_iret hX hr rfl (Nat.le_refl 0) (Nat.le_refl 0) dX11_fallCount_7
set_option maxRecDepth 100000 in
set_option maxHeartbeats 4000000 in
theorem k_X11_averagePurse (l : Launch) (g : kG) (N : Nat) (M : kMem) (a0 : Nat) : kMet l g yX11_averagePurse cX11_averagePurse 2 (some .double) 2 0 0 [.ref a0] M (fun r : UInt64 => (some (.double r), M)) (F_X11_averagePurse N M a0) := by
  refine k_of (lv := [(0, .ref a0)]) RX11 (by decide) rfl rfl (Nat.le_of_ble_eq_true rfl) ?_
  intro p e s m args below meth c hX hr _
  unfold F_X11_averagePurse
  refine g_aload_n 1 0 hX dX11_averagePurse_0 rfl rfl ?_
  refine r_X11_38 4 hX dX11_averagePurse_1 rfl ?_
  refine g_callV_ip 7 hX (k_X4_presentTraders l g N M (kR M a0 4)) lk_X4_presentTraders rfl (ci := 4) rfl (Nat.le_of_ble_eq_true rfl) q_1052 q_1054 (by omega) rfl (Nat.le_of_ble_eq_true rfl) (Nat.zero_le _) (Nat.zero_le _) dX11_averagePurse_4 rfl (fun r1 => ?_)
  refine g_istore_n 8 1 [(1, .int r1), (0, .ref a0)] hX dX11_averagePurse_7 rfl rfl (Nat.le_of_ble_eq_true rfl) rfl ?_
  refine g_iload_n 9 0 hX dX11_averagePurse_8 rfl rfl ?_
  refine g_if_ne 16 12 hX dX11_averagePurse_9 (by decide) rfl (fun _ => ?_) (fun _ => ?_)
  · refine g_aload_n 17 1 hX dX11_averagePurse_16 rfl rfl ?_
    refine r_X11_38 20 hX dX11_averagePurse_17 rfl ?_
    refine g_callV_ip 23 hX (k_X4_coinsInPurses l g N M (kR M a0 4)) lk_X4_coinsInPurses rfl (ci := 4) rfl (Nat.le_of_ble_eq_true rfl) q_1056 q_1058 (by omega) rfl (Nat.le_of_ble_eq_true rfl) (Nat.zero_le _) (Nat.zero_le _) dX11_averagePurse_20 rfl (fun r2 => ?_)
    refine g_i2d 24 hX dX11_averagePurse_23 rfl ?_
    refine g_iload_n 25 0 hX dX11_averagePurse_24 rfl rfl ?_
    refine g_i2d 26 hX dX11_averagePurse_25 rfl ?_
    refine g_ddiv 27 hX dX11_averagePurse_26 rfl ?_
    exact g_dret hX hr rfl (Nat.le_refl 0) (Nat.le_refl 0) dX11_averagePurse_27
  · refine g_dconst0 13 hX dX11_averagePurse_12 rfl ?_
    refine g_goto 27 hX dX11_averagePurse_13 (by decide) ?_
    exact g_dret hX hr rfl (Nat.le_refl 0) (Nat.le_refl 0) dX11_averagePurse_27
set_option maxRecDepth 100000 in
set_option maxHeartbeats 4000000 in
theorem k_X11_occupancy (l : Launch) (g : kG) (N : Nat) (M : kMem) (a0 : Nat) : kMet l g yX11_occupancy cX11_occupancy 2 (some .float) 3 0 0 [.ref a0] M (fun r : UInt32 => (some (.float r), M)) (F_X11_occupancy N M a0) := by
  refine k_of (lv := [(0, .ref a0)]) RX11 (by decide) rfl rfl (Nat.le_of_ble_eq_true rfl) ?_
  intro p e s m args below meth c hX hr _
  unfold F_X11_occupancy
  refine g_aload_n 1 0 hX dX11_occupancy_0 rfl rfl ?_
  refine r_X11_38 4 hX dX11_occupancy_1 rfl ?_
  refine g_callV_ip 7 hX (k_X4_seatCount l g N M (kR M a0 4)) lk_X4_seatCount rfl (ci := 4) rfl (Nat.le_of_ble_eq_true rfl) q_1064 q_1066 (by omega) rfl (Nat.le_of_ble_eq_true rfl) (Nat.zero_le _) (Nat.zero_le _) dX11_occupancy_4 rfl (fun r1 => ?_)
  refine g_istore_n 8 1 [(1, .int r1), (0, .ref a0)] hX dX11_occupancy_7 rfl rfl (Nat.le_of_ble_eq_true rfl) rfl ?_
  refine g_iload_n 9 0 hX dX11_occupancy_8 rfl rfl ?_
  refine g_if_ne 16 12 hX dX11_occupancy_9 (by decide) rfl (fun _ => ?_) (fun _ => ?_)
  · refine g_aload_n 17 1 hX dX11_occupancy_16 rfl rfl ?_
    refine r_X11_38 20 hX dX11_occupancy_17 rfl ?_
    refine g_callV_ip 23 hX (k_X4_seatedTraders l g N M (kR M a0 4)) lk_X4_seatedTraders rfl (ci := 4) rfl (Nat.le_of_ble_eq_true rfl) q_1068 q_1070 (by omega) rfl (Nat.le_of_ble_eq_true rfl) (Nat.zero_le _) (Nat.zero_le _) dX11_occupancy_20 rfl (fun r2 => ?_)
    refine g_i2f 24 hX dX11_occupancy_23 rfl ?_
    refine g_iload_n 25 0 hX dX11_occupancy_24 rfl rfl ?_
    refine g_i2f 26 hX dX11_occupancy_25 rfl ?_
    refine g_fdiv 27 hX dX11_occupancy_26 rfl ?_
    exact g_fret hX hr rfl (Nat.le_refl 0) (Nat.le_refl 0) dX11_occupancy_27
  · refine g_fconst0 13 hX dX11_occupancy_12 rfl ?_
    refine g_goto 27 hX dX11_occupancy_13 (by decide) ?_
    exact g_fret hX hr rfl (Nat.le_refl 0) (Nat.le_refl 0) dX11_occupancy_27
set_option maxRecDepth 100000 in
set_option maxHeartbeats 4000000 in
theorem k_X11_contradictions (l : Launch) (g : kG) (N : Nat) (M : kMem) (a0 : Nat) : kMet l g yX11_contradictions cX11_contradictions 1 (some .int) 5 0 0 [.ref a0] M (fun r : Int32 => (some (.int r), M)) (F_X11_contradictions N M a0) := by
  refine k_of (lv := [(0, .ref a0)]) RX11 (by decide) rfl rfl (Nat.le_of_ble_eq_true rfl) ?_
  intro p e s m args below meth c hX hr _
  unfold F_X11_contradictions
  refine g_aload_n 1 0 hX dX11_contradictions_0 rfl rfl ?_
  refine r_X11_38 4 hX dX11_contradictions_1 rfl ?_
  refine g_callV_ip 7 hX (k_X4_countContradictions l g N M (kR M a0 4)) lk_X4_countContradictions rfl (ci := 4) rfl (Nat.le_of_ble_eq_true rfl) q_1076 q_1078 (by omega) rfl (Nat.le_of_ble_eq_true rfl) (Nat.zero_le _) (Nat.zero_le _) dX11_contradictions_4 rfl (fun r1 => ?_)
  exact g_iret hX hr rfl (Nat.le_refl 0) (Nat.le_refl 0) dX11_contradictions_7
set_option maxRecDepth 100000 in
set_option maxHeartbeats 4000000 in
theorem k_X11_eventKind (l : Launch) (g : kG) (N : Nat) (M : kMem) (a0 : Nat) (x1 : Int32) : kMet l g yX11_eventKind cX11_eventKind 2 (some .int) 3 0 0 [.ref a0, .int x1] M (fun r : Int32 => (some (.int r), M)) (F_X11_eventKind N M a0 x1) := by
  refine k_of (lv := [(0, .ref a0), (1, .int x1)]) RX11 (by decide) rfl rfl (Nat.le_of_ble_eq_true rfl) ?_
  intro p e s m args below meth c hX hr _
  unfold F_X11_eventKind
  refine g_aload_n 1 0 hX dX11_eventKind_0 rfl rfl ?_
  refine r_X11_38 4 hX dX11_eventKind_1 rfl ?_
  refine r_X11_289 7 hX dX11_eventKind_4 rfl ?_
  refine g_iload_n 8 1 hX dX11_eventKind_7 rfl rfl ?_
  refine g_callV_ip 11 hX (k_X2_kindAt l g N M (kR M (kR M a0 4) 15) x1) lk_X2_kindAt rfl (ci := 2) rfl (Nat.le_of_ble_eq_true rfl) q_1097 q_1099 (by omega) rfl (Nat.le_of_ble_eq_true rfl) (Nat.zero_le _) (Nat.zero_le _) dX11_eventKind_8 rfl (fun r1 => ?_)
  exact g_iret hX hr rfl (Nat.le_refl 0) (Nat.le_refl 0) dX11_eventKind_11
set_option maxRecDepth 100000 in
set_option maxHeartbeats 4000000 in
theorem k_X11_eventTrader (l : Launch) (g : kG) (N : Nat) (M : kMem) (a0 : Nat) (x1 : Int32) : kMet l g yX11_eventTrader cX11_eventTrader 2 (some .int) 3 0 0 [.ref a0, .int x1] M (fun r : Int32 => (some (.int r), M)) (F_X11_eventTrader N M a0 x1) := by
  refine k_of (lv := [(0, .ref a0), (1, .int x1)]) RX11 (by decide) rfl rfl (Nat.le_of_ble_eq_true rfl) ?_
  intro p e s m args below meth c hX hr _
  unfold F_X11_eventTrader
  refine g_aload_n 1 0 hX dX11_eventTrader_0 rfl rfl ?_
  refine r_X11_38 4 hX dX11_eventTrader_1 rfl ?_
  refine r_X11_289 7 hX dX11_eventTrader_4 rfl ?_
  refine g_iload_n 8 1 hX dX11_eventTrader_7 rfl rfl ?_
  refine g_callV_ip 11 hX (k_X2_traderAt l g N M (kR M (kR M a0 4) 15) x1) lk_X2_traderAt rfl (ci := 2) rfl (Nat.le_of_ble_eq_true rfl) q_1109 q_1111 (by omega) rfl (Nat.le_of_ble_eq_true rfl) (Nat.zero_le _) (Nat.zero_le _) dX11_eventTrader_8 rfl (fun r1 => ?_)
  exact g_iret hX hr rfl (Nat.le_refl 0) (Nat.le_refl 0) dX11_eventTrader_11
set_option maxRecDepth 100000 in
set_option maxHeartbeats 4000000 in
theorem k_X11_eventDay (l : Launch) (g : kG) (N : Nat) (M : kMem) (a0 : Nat) (x1 : Int32) : kMet l g yX11_eventDay cX11_eventDay 2 (some .int) 3 0 0 [.ref a0, .int x1] M (fun r : Int32 => (some (.int r), M)) (F_X11_eventDay N M a0 x1) := by
  refine k_of (lv := [(0, .ref a0), (1, .int x1)]) RX11 (by decide) rfl rfl (Nat.le_of_ble_eq_true rfl) ?_
  intro p e s m args below meth c hX hr _
  unfold F_X11_eventDay
  refine g_aload_n 1 0 hX dX11_eventDay_0 rfl rfl ?_
  refine r_X11_38 4 hX dX11_eventDay_1 rfl ?_
  refine r_X11_289 7 hX dX11_eventDay_4 rfl ?_
  refine g_iload_n 8 1 hX dX11_eventDay_7 rfl rfl ?_
  refine g_callV_ip 11 hX (k_X2_dayAt l g N M (kR M (kR M a0 4) 15) x1) lk_X2_dayAt rfl (ci := 2) rfl (Nat.le_of_ble_eq_true rfl) q_1117 q_1119 (by omega) rfl (Nat.le_of_ble_eq_true rfl) (Nat.zero_le _) (Nat.zero_le _) dX11_eventDay_8 rfl (fun r1 => ?_)
  exact g_iret hX hr rfl (Nat.le_refl 0) (Nat.le_refl 0) dX11_eventDay_11
set_option maxRecDepth 100000 in
set_option maxHeartbeats 4000000 in
theorem k_X11_outputByte (l : Launch) (g : kG) (N : Nat) (M : kMem) (a0 : Nat) (x1 : Int32) : kMet l g yX11_outputByte cX11_outputByte 2 (some .int) 2 0 0 [.ref a0, .int x1] M (fun r : Int32 => (some (.int r), M)) (F_X11_outputByte N M a0 x1) := by
  refine k_of (lv := [(0, .ref a0), (1, .int x1)]) RX11 (by decide) rfl rfl (Nat.le_of_ble_eq_true rfl) ?_
  intro p e s m args below meth c hX hr _
  unfold F_X11_outputByte
  refine g_aload_n 1 0 hX dX11_outputByte_0 rfl rfl ?_
  refine r_X11_16 4 hX dX11_outputByte_1 rfl ?_
  refine g_iload_n 5 1 hX dX11_outputByte_4 rfl rfl ?_
  refine g_callV_ip 8 hX (k_X8_byteAt l g N M (kR M a0 1) x1) lk_X8_byteAt rfl (ci := 8) rfl (Nat.le_of_ble_eq_true rfl) q_1125 q_527 (by omega) rfl (Nat.le_of_ble_eq_true rfl) (Nat.zero_le _) (Nat.zero_le _) dX11_outputByte_5 rfl (fun r1 => ?_)
  exact g_iret hX hr rfl (Nat.le_refl 0) (Nat.le_refl 0) dX11_outputByte_8
set_option maxRecDepth 100000 in
set_option maxHeartbeats 4000000 in
theorem k_X11_undoCount (l : Launch) (g : kG) (N : Nat) (M : kMem) (a0 : Nat) : kMet l g yX11_undoCount cX11_undoCount 1 (some .int) 1 0 0 [.ref a0] M (fun r : Int32 => (some (.int r), M)) (F_X11_undoCount N M a0) := by
  refine k_of (lv := [(0, .ref a0)]) RX11 (by decide) rfl rfl (Nat.le_of_ble_eq_true rfl) ?_
  intro p e s m args below meth c hX hr _
  unfold F_X11_undoCount
  refine g_aload_n 1 0 hX dX11_undoCount_0 rfl rfl ?_
  refine r_X11_48 4 hX dX11_undoCount_1 rfl ?_
  refine r_X11_357 7 hX dX11_undoCount_4 rfl ?_
  exact g_iret hX hr rfl (Nat.le_refl 0) (Nat.le_refl 0) dX11_undoCount_7
set_option maxRecDepth 100000 in
set_option maxHeartbeats 4000000 in
theorem k_X11_writePlace (l : Launch) (g : kG) (N : Nat) (M : kMem) (a0 : Nat) (a1 : Nat) (x2 : Int32) : kMet l g yX11_writePlace cX11_writePlace 4 none 3 0 0 [.ref a0, .ref a1, .int x2] M (fun r : kMem => (none, r)) (F_X11_writePlace N M a0 a1 x2) := by
  refine k_of (lv := [(0, .ref a0), (1, .ref a1), (2, .int x2)]) RX11 (by decide) rfl rfl (Nat.le_of_ble_eq_true rfl) ?_
  intro p e s m args below meth c hX hr _
  unfold F_X11_writePlace
  refine g_aload_n 1 0 hX dX11_writePlace_0 rfl rfl ?_
  refine r_X11_38 4 hX dX11_writePlace_1 rfl ?_
  refine g_aload_n 5 1 hX dX11_writePlace_4 rfl rfl ?_
  refine g_iload_n 6 2 hX dX11_writePlace_5 rfl rfl ?_
  refine g_callV_ip 9 hX (k_X0_ownerAt l g N M a1 x2) lk_X0_ownerAt rfl (ci := 0) rfl (Nat.le_of_ble_eq_true rfl) q_1311 q_680 (by omega) rfl (Nat.le_of_ble_eq_true rfl) (Nat.zero_le _) (Nat.zero_le _) dX11_writePlace_6 rfl (fun r1 => ?_)
  refine g_callV_rp 12 hX (k_X4_traderNumbered l g N M (kR M a0 4) r1) lk_X4_traderNumbered rfl (ci := 4) rfl (Nat.le_of_ble_eq_true rfl) q_1350 q_980 (by omega) rfl (Nat.le_of_ble_eq_true rfl) (Nat.zero_le _) (Nat.zero_le _) dX11_writePlace_9 rfl (fun r2 => ?_)
  refine g_astore_n 13 3 [(3, .ref r2), (0, .ref a0), (1, .ref a1), (2, .int x2)] hX dX11_writePlace_12 rfl rfl (Nat.le_of_ble_eq_true rfl) rfl ?_
  refine g_iload_n 14 3 hX dX11_writePlace_13 rfl rfl ?_
  refine g_if_ne 29 17 hX dX11_writePlace_14 (by decide) rfl (fun _ => ?_) (fun _ => ?_)
  · refine g_aload_n 30 0 hX dX11_writePlace_29 rfl rfl ?_
    refine g_ifnonnull 45 33 hX dX11_writePlace_30 (by decide) rfl (fun _ => ?_) (fun _ => ?_)
    · refine g_aload_n 46 1 hX dX11_writePlace_45 rfl rfl ?_
      refine r_X11_16 49 hX dX11_writePlace_46 rfl ?_
      refine g_aload_n 50 0 hX dX11_writePlace_49 rfl rfl ?_
      refine r_X11_203 53 hX dX11_writePlace_50 rfl ?_
      refine g_callV_v 56 hX (k_X8_addName l g N M (kR M a0 1) (kJ M r2 1)) lk_X8_addName rfl (ci := 8) rfl (Nat.le_of_ble_eq_true rfl) q_1567 q_1569 (by omega) rfl (Nat.le_of_ble_eq_true rfl) (Nat.zero_le _) (Nat.zero_le _) dX11_writePlace_53 rfl (fun M3 => ?_)
      exact g_vret hX hr rfl (Nat.le_refl 0) (Nat.le_refl 0) dX11_writePlace_56
    · refine g_aload_n 34 1 hX dX11_writePlace_33 rfl rfl ?_
      refine r_X11_16 37 hX dX11_writePlace_34 rfl ?_
      refine g_bipush 39 hX 46 dX11_writePlace_37 rfl kc_b_46 ?_
      refine g_callV_v 42 hX (k_X8_add l g N M (kR M a0 1) 46) lk_X8_add rfl (ci := 8) rfl (Nat.le_of_ble_eq_true rfl) q_1562 q_513 (by omega) rfl (Nat.le_of_ble_eq_true rfl) (Nat.zero_le _) (Nat.zero_le _) dX11_writePlace_39 rfl (fun M4 => ?_)
      refine g_goto 56 hX dX11_writePlace_42 (by decide) ?_
      exact g_vret hX hr rfl (Nat.le_refl 0) (Nat.le_refl 0) dX11_writePlace_56
  · refine g_aload_n 18 1 hX dX11_writePlace_17 rfl rfl ?_
    refine r_X11_16 21 hX dX11_writePlace_18 rfl ?_
    refine g_bipush 23 hX 94 dX11_writePlace_21 rfl kc_b_94 ?_
    refine g_callV_v 26 hX (k_X8_add l g N M (kR M a0 1) 94) lk_X8_add rfl (ci := 8) rfl (Nat.le_of_ble_eq_true rfl) q_1562 q_513 (by omega) rfl (Nat.le_of_ble_eq_true rfl) (Nat.zero_le _) (Nat.zero_le _) dX11_writePlace_23 rfl (fun M5 => ?_)
    refine g_goto 56 hX dX11_writePlace_26 (by decide) ?_
    exact g_vret hX hr rfl (Nat.le_refl 0) (Nat.le_refl 0) dX11_writePlace_56
set_option maxRecDepth 100000 in
set_option maxHeartbeats 4000000 in
theorem k_X11_bytesIn_5 {p : Program} {l : Launch} {e : Env} {s : State} {m : MethodId} {args : Array Value} {below : List Frame} {meth : Method} {c : Code} {g : kG} (hX : Cok (p, l, e, { frames := 2 * 1, cells := 0, slots := 0, locals := 60 * 1 }, s, m, args, below, meth, c, cX11_bytesIn, 3, RX11, g, 1)) (hr : meth.sig.returnType = (some .int)) (N : Nat) (M : kMem) : ∀ (n : Nat) (x0 : Int32) (x1 : Int32) (x2 : Int32), GG (p, l, e, { frames := 2 * 1, cells := 0, slots := 0, locals := 60 * 1 }, s, m, args, below, meth, c, cX11_bytesIn, 3, RX11, g, 1) (fun b => MQ below (kQ g ((fun r : Int32 => (some (.int r), M)) b)) args s 0 0 (kZ g.2.2.1)) 0 0 (F_X11_bytesIn_5 N M n x0 x1 x2) 5 [(0, .int x0), (1, .int x1), (2, .int x2)] [] M := by
  intro n
  induction n with
  | zero => intro _ _ _; exact g_none
  | succ n ih =>
    intro x0 x1 x2
    unfold F_X11_bytesIn_5
    refine g_iload_n 6 2 hX dX11_bytesIn_5 rfl rfl ?_
    refine g_if_lt 28 9 hX dX11_bytesIn_6 (by decide) rfl (fun _ => ?_) (fun _ => ?_)
    · refine g_iload_n 29 1 hX dX11_bytesIn_28 rfl rfl ?_
      exact g_iret hX hr rfl (Nat.le_refl 0) (Nat.le_refl 0) dX11_bytesIn_29
    · refine g_iload_n 10 0 hX dX11_bytesIn_9 rfl rfl ?_
      refine g_iload_n 11 2 hX dX11_bytesIn_10 rfl rfl ?_
      refine g_iushr 12 hX ((x0.toUInt32 >>> (x2.toUInt32 &&& Int32.toUInt32 31)).toInt32) dX11_bytesIn_11 rfl rfl ?_
      refine g_sipush 15 hX 255 dX11_bytesIn_12 rfl kc_s_255 ?_
      refine g_iand 16 hX dX11_bytesIn_15 rfl ?_
      refine g_if_eq 22 19 hX dX11_bytesIn_16 (by decide) rfl (fun _ => ?_) (fun _ => ?_)
      · refine g_kl (fun v1 hv1 => ?_)
        refine g_iinc 25 2 2 v1 [(2, .int v1), (0, .int x0), (1, .int x1)] hX dX11_bytesIn_22 rfl rfl (by rw [hv1, kc_i_m8]) (Nat.le_of_ble_eq_true rfl) rfl ?_
        refine g_goto 5 hX dX11_bytesIn_25 (by decide) ?_
        refine g_lv [1, 2, 0] rfl ?_
        exact ih x0 x1 v1
      · refine g_kl (fun v2 hv2 => ?_)
        refine g_iinc 22 1 1 v2 [(1, .int v2), (0, .int x0), (2, .int x2)] hX dX11_bytesIn_19 rfl rfl (by rw [hv2, kc_i_1]) (Nat.le_of_ble_eq_true rfl) rfl ?_
        refine g_kl (fun v3 hv3 => ?_)
        refine g_iinc 25 2 2 v3 [(2, .int v3), (1, .int v2), (0, .int x0)] hX dX11_bytesIn_22 rfl rfl (by rw [hv3, kc_i_m8]) (Nat.le_of_ble_eq_true rfl) rfl ?_
        refine g_goto 5 hX dX11_bytesIn_25 (by decide) ?_
        refine g_lv [2, 1, 0] rfl ?_
        exact ih x0 v2 v3
set_option maxRecDepth 100000 in
set_option maxHeartbeats 4000000 in
theorem k_X11_bytesIn (l : Launch) (g : kG) (N : Nat) (M : kMem) (x0 : Int32) : kMet l g yX11_bytesIn cX11_bytesIn 3 (some .int) 1 0 0 [.int x0] M (fun r : Int32 => (some (.int r), M)) (F_X11_bytesIn N M x0) := by
  refine k_of (lv := [(0, .int x0)]) RX11 (by decide) rfl rfl (Nat.le_of_ble_eq_true rfl) ?_
  intro p e s m args below meth c hX hr _
  unfold F_X11_bytesIn
  refine g_iconst 1 hX 0 dX11_bytesIn_0 rfl kc_i_0 ?_
  refine g_istore_n 2 1 [(1, .int 0), (0, .int x0)] hX dX11_bytesIn_1 rfl rfl (Nat.le_of_ble_eq_true rfl) rfl ?_
  refine g_bipush 4 hX 24 dX11_bytesIn_2 rfl kc_b_24 ?_
  refine g_istore_n 5 2 [(2, .int 24), (1, .int 0), (0, .int x0)] hX dX11_bytesIn_4 rfl rfl (Nat.le_of_ble_eq_true rfl) rfl ?_
  refine g_lv [2, 1, 0] rfl ?_
  exact k_X11_bytesIn_5 hX hr N M N x0 0 24
