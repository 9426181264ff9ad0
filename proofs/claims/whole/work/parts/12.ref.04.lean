set_option maxRecDepth 100000 in
set_option maxHeartbeats 4000000 in
theorem k_X12_stiffness (l : Launch) (g : kG) (N : Nat) (M : kMem) (a0 : Nat) (x1 : Int32) : kMet l g yX12_stiffness cX12_stiffness 2 (some .int) 3 0 0 [.ref a0, .int x1] M (fun r : Int32 × kMem => (some (.int r.1), r.2)) (F_X12_stiffness N M a0 x1) := by
  refine k_of (lv := [(0, .ref a0), (1, .int x1)]) RX12 (by decide) rfl rfl (Nat.le_of_ble_eq_true rfl) ?_
  intro p e s m args below meth c hX hr _
  unfold F_X12_stiffness
  refine g_aload_n 1 0 hX dX12_stiffness_0 rfl rfl ?_
  refine g_iconst 2 hX 0 dX12_stiffness_1 rfl kc_i_0 ?_
  refine p_X12_63 5 hX dX12_stiffness_2 rfl ?_
  refine g_klM (fun M1 hM1 => ?_)
  refine g_aload_n 6 0 hX dX12_stiffness_5 rfl rfl ?_
  refine g_iload_n 7 1 hX dX12_stiffness_6 rfl rfl ?_
  refine g_callV_i 10 hX (k_X12_noBoard l g N M1 a0 x1) lk_X12_noBoard rfl (ci := 12) rfl (Nat.le_of_ble_eq_true rfl) q_2102 q_113 (by omega) rfl (Nat.le_of_ble_eq_true rfl) (Nat.zero_le _) (Nat.zero_le _) dX12_stiffness_7 rfl (fun r2 => ?_)
  refine g_if_eq 17 13 hX dX12_stiffness_10 (by decide) rfl (fun _ => ?_) (fun _ => ?_)
  · refine g_aload_n 18 0 hX dX12_stiffness_17 rfl rfl ?_
    refine g_iload_n 19 1 hX dX12_stiffness_18 rfl rfl ?_
    refine g_iconst 20 hX 1 dX12_stiffness_19 rfl kc_i_1 ?_
    refine g_callV_ip 23 hX (k_X12_ofBoard l g N r2.2 a0 x1 1) lk_X12_ofBoard rfl (ci := 12) rfl (Nat.le_of_ble_eq_true rfl) q_1867 q_64 (by omega) rfl (Nat.le_of_ble_eq_true rfl) (Nat.zero_le _) (Nat.zero_le _) dX12_stiffness_20 rfl (fun r3 => ?_)
    exact g_iret hX hr rfl (Nat.le_refl 0) (Nat.le_refl 0) dX12_stiffness_23
  · refine g_iconst 14 hX 0 dX12_stiffness_13 rfl kc_i_0 ?_
    refine g_goto 23 hX dX12_stiffness_14 (by decide) ?_
    exact g_iret hX hr rfl (Nat.le_refl 0) (Nat.le_refl 0) dX12_stiffness_23
set_option maxRecDepth 100000 in
set_option maxHeartbeats 4000000 in
theorem k_X12_torque (l : Launch) (g : kG) (N : Nat) (M : kMem) (a0 : Nat) (x1 : Int32) : kMet l g yX12_torque cX12_torque 2 (some .int) 5 0 0 [.ref a0, .int x1] M (fun r : Int32 × kMem => (some (.int r.1), r.2)) (F_X12_torque N M a0 x1) := by
  refine k_of (lv := [(0, .ref a0), (1, .int x1)]) RX12 (by decide) rfl rfl (Nat.le_of_ble_eq_true rfl) ?_
  intro p e s m args below meth c hX hr _
  unfold F_X12_torque
  refine g_aload_n 1 0 hX dX12_torque_0 rfl rfl ?_
  refine g_iconst 2 hX 0 dX12_torque_1 rfl kc_i_0 ?_
  refine p_X12_63 5 hX dX12_torque_2 rfl ?_
  refine g_klM (fun M1 hM1 => ?_)
  refine g_aload_n 6 0 hX dX12_torque_5 rfl rfl ?_
  refine g_iload_n 7 1 hX dX12_torque_6 rfl rfl ?_
  refine g_callV_i 10 hX (k_X12_noBoard l g N M1 a0 x1) lk_X12_noBoard rfl (ci := 12) rfl (Nat.le_of_ble_eq_true rfl) q_2102 q_113 (by omega) rfl (Nat.le_of_ble_eq_true rfl) (Nat.zero_le _) (Nat.zero_le _) dX12_torque_7 rfl (fun r2 => ?_)
  refine g_if_eq 17 13 hX dX12_torque_10 (by decide) rfl (fun _ => ?_) (fun _ => ?_)
  · refine g_aload_n 18 0 hX dX12_torque_17 rfl rfl ?_
    refine g_iload_n 19 1 hX dX12_torque_18 rfl rfl ?_
    refine g_callV_ip 22 hX (k_X12_torqueOf l g N r2.2 a0 x1) lk_X12_torqueOf rfl (ci := 12) rfl (Nat.le_of_ble_eq_true rfl) q_1961 q_83 (by omega) rfl (Nat.le_of_ble_eq_true rfl) (Nat.zero_le _) (Nat.zero_le _) dX12_torque_19 rfl (fun r3 => ?_)
    exact g_iret hX hr rfl (Nat.le_refl 0) (Nat.le_refl 0) dX12_torque_22
  · refine g_iconst 14 hX 0 dX12_torque_13 rfl kc_i_0 ?_
    refine g_goto 22 hX dX12_torque_14 (by decide) ?_
    exact g_iret hX hr rfl (Nat.le_refl 0) (Nat.le_refl 0) dX12_torque_22
set_option maxRecDepth 100000 in
set_option maxHeartbeats 4000000 in
theorem k_X12_tilt (l : Launch) (g : kG) (N : Nat) (M : kMem) (a0 : Nat) (x1 : Int32) : kMet l g yX12_tilt cX12_tilt 2 (some .int) 5 0 0 [.ref a0, .int x1] M (fun r : Int32 × kMem => (some (.int r.1), r.2)) (F_X12_tilt N M a0 x1) := by
  refine k_of (lv := [(0, .ref a0), (1, .int x1)]) RX12 (by decide) rfl rfl (Nat.le_of_ble_eq_true rfl) ?_
  intro p e s m args below meth c hX hr _
  unfold F_X12_tilt
  refine g_aload_n 1 0 hX dX12_tilt_0 rfl rfl ?_
  refine g_iconst 2 hX 0 dX12_tilt_1 rfl kc_i_0 ?_
  refine p_X12_63 5 hX dX12_tilt_2 rfl ?_
  refine g_klM (fun M1 hM1 => ?_)
  refine g_aload_n 6 0 hX dX12_tilt_5 rfl rfl ?_
  refine g_iload_n 7 1 hX dX12_tilt_6 rfl rfl ?_
  refine g_callV_i 10 hX (k_X12_noBoard l g N M1 a0 x1) lk_X12_noBoard rfl (ci := 12) rfl (Nat.le_of_ble_eq_true rfl) q_2102 q_113 (by omega) rfl (Nat.le_of_ble_eq_true rfl) (Nat.zero_le _) (Nat.zero_le _) dX12_tilt_7 rfl (fun r2 => ?_)
  refine g_if_eq 17 13 hX dX12_tilt_10 (by decide) rfl (fun _ => ?_) (fun _ => ?_)
  · refine g_aload_n 18 0 hX dX12_tilt_17 rfl rfl ?_
    refine g_iload_n 19 1 hX dX12_tilt_18 rfl rfl ?_
    refine g_aload_n 20 0 hX dX12_tilt_19 rfl rfl ?_
    refine g_iload_n 21 1 hX dX12_tilt_20 rfl rfl ?_
    refine g_callV_ip 24 hX (k_X12_torqueOf l g N r2.2 a0 x1) lk_X12_torqueOf rfl (ci := 12) rfl (Nat.le_of_ble_eq_true rfl) q_1961 q_83 (by omega) rfl (Nat.le_of_ble_eq_true rfl) (Nat.zero_le _) (Nat.zero_le _) dX12_tilt_21 rfl (fun r3 => ?_)
    refine g_callV_ip 27 hX (k_X12_tiltBy l g N r2.2 a0 x1 r3) lk_X12_tiltBy rfl (ci := 12) rfl (Nat.le_of_ble_eq_true rfl) q_1965 q_84 (by omega) rfl (Nat.le_of_ble_eq_true rfl) (Nat.zero_le _) (Nat.zero_le _) dX12_tilt_24 rfl (fun r4 => ?_)
    exact g_iret hX hr rfl (Nat.le_refl 0) (Nat.le_refl 0) dX12_tilt_27
  · refine g_iconst 14 hX 0 dX12_tilt_13 rfl kc_i_0 ?_
    refine g_goto 27 hX dX12_tilt_14 (by decide) ?_
    exact g_iret hX hr rfl (Nat.le_refl 0) (Nat.le_refl 0) dX12_tilt_27
set_option maxRecDepth 100000 in
set_option maxHeartbeats 4000000 in
theorem k_X12_isBalanced (l : Launch) (g : kG) (N : Nat) (M : kMem) (a0 : Nat) (x1 : Int32) : kMet l g yX12_isBalanced cX12_isBalanced 2 (some .boolean) 5 0 0 [.ref a0, .int x1] M (fun r : Int32 × kMem => (some (.int r.1), r.2)) (F_X12_isBalanced N M a0 x1) := by
  refine k_of (lv := [(0, .ref a0), (1, .int x1)]) RX12 (by decide) rfl rfl (Nat.le_of_ble_eq_true rfl) ?_
  intro p e s m args below meth c hX hr _
  unfold F_X12_isBalanced
  refine g_aload_n 1 0 hX dX12_isBalanced_0 rfl rfl ?_
  refine g_iconst 2 hX 0 dX12_isBalanced_1 rfl kc_i_0 ?_
  refine p_X12_63 5 hX dX12_isBalanced_2 rfl ?_
  refine g_klM (fun M1 hM1 => ?_)
  refine g_aload_n 6 0 hX dX12_isBalanced_5 rfl rfl ?_
  refine g_iload_n 7 1 hX dX12_isBalanced_6 rfl rfl ?_
  refine g_callV_i 10 hX (k_X12_noBoard l g N M1 a0 x1) lk_X12_noBoard rfl (ci := 12) rfl (Nat.le_of_ble_eq_true rfl) q_2102 q_113 (by omega) rfl (Nat.le_of_ble_eq_true rfl) (Nat.zero_le _) (Nat.zero_le _) dX12_isBalanced_7 rfl (fun r2 => ?_)
  refine g_if_ne 25 13 hX dX12_isBalanced_10 (by decide) rfl (fun _ => ?_) (fun _ => ?_)
  · refine g_iconst 26 hX 0 dX12_isBalanced_25 rfl kc_i_0 ?_
    exact g_zretL hX hr rfl rfl (Nat.le_refl 0) (Nat.le_refl 0) dX12_isBalanced_26
  · refine g_aload_n 14 0 hX dX12_isBalanced_13 rfl rfl ?_
    refine g_iload_n 15 1 hX dX12_isBalanced_14 rfl rfl ?_
    refine g_callV_ip 18 hX (k_X12_torqueOf l g N r2.2 a0 x1) lk_X12_torqueOf rfl (ci := 12) rfl (Nat.le_of_ble_eq_true rfl) q_1961 q_83 (by omega) rfl (Nat.le_of_ble_eq_true rfl) (Nat.zero_le _) (Nat.zero_le _) dX12_isBalanced_15 rfl (fun r3 => ?_)
    refine g_if_ne 25 21 hX dX12_isBalanced_18 (by decide) rfl (fun _ => ?_) (fun _ => ?_)
    · refine g_iconst 26 hX 0 dX12_isBalanced_25 rfl kc_i_0 ?_
      exact g_zretL hX hr rfl rfl (Nat.le_refl 0) (Nat.le_refl 0) dX12_isBalanced_26
    · refine g_iconst 22 hX 1 dX12_isBalanced_21 rfl kc_i_1 ?_
      refine g_goto 26 hX dX12_isBalanced_22 (by decide) ?_
      exact g_zretL hX hr rfl rfl (Nat.le_refl 0) (Nat.le_refl 0) dX12_isBalanced_26
set_option maxRecDepth 100000 in
set_option maxHeartbeats 4000000 in
theorem k_X12_seatOwner (l : Launch) (g : kG) (N : Nat) (M : kMem) (a0 : Nat) (x1 : Int32) (x2 : Int32) : kMet l g yX12_seatOwner cX12_seatOwner 3 (some .int) 5 0 0 [.ref a0, .int x1, .int x2] M (fun r : Int32 × kMem => (some (.int r.1), r.2)) (F_X12_seatOwner N M a0 x1 x2) := by
  refine k_of (lv := [(0, .ref a0), (1, .int x1), (2, .int x2)]) RX12 (by decide) rfl rfl (Nat.le_of_ble_eq_true rfl) ?_
  intro p e s m args below meth c hX hr _
  unfold F_X12_seatOwner
  refine g_aload_n 1 0 hX dX12_seatOwner_0 rfl rfl ?_
  refine g_iconst 2 hX 0 dX12_seatOwner_1 rfl kc_i_0 ?_
  refine p_X12_63 5 hX dX12_seatOwner_2 rfl ?_
  refine g_klM (fun M1 hM1 => ?_)
  refine g_aload_n 6 0 hX dX12_seatOwner_5 rfl rfl ?_
  refine g_iload_n 7 1 hX dX12_seatOwner_6 rfl rfl ?_
  refine g_iload_n 8 2 hX dX12_seatOwner_7 rfl rfl ?_
  refine g_callV_i 11 hX (k_X12_noSeat l g N M1 a0 x1 x2) lk_X12_noSeat rfl (ci := 12) rfl (Nat.le_of_ble_eq_true rfl) q_2098 q_112 (by omega) rfl (Nat.le_of_ble_eq_true rfl) (Nat.zero_le _) (Nat.zero_le _) dX12_seatOwner_8 rfl (fun r2 => ?_)
  refine g_if_eq 18 14 hX dX12_seatOwner_11 (by decide) rfl (fun _ => ?_) (fun _ => ?_)
  · refine g_aload_n 19 0 hX dX12_seatOwner_18 rfl rfl ?_
    refine g_iload_n 20 1 hX dX12_seatOwner_19 rfl rfl ?_
    refine g_iload_n 21 2 hX dX12_seatOwner_20 rfl rfl ?_
    refine g_callV_ip 24 hX (k_X12_onSeat l g N r2.2 a0 x1 x2) lk_X12_onSeat rfl (ci := 12) rfl (Nat.le_of_ble_eq_true rfl) q_1871 q_65 (by omega) rfl (Nat.le_of_ble_eq_true rfl) (Nat.zero_le _) (Nat.zero_le _) dX12_seatOwner_21 rfl (fun r3 => ?_)
    exact g_iret hX hr rfl (Nat.le_refl 0) (Nat.le_refl 0) dX12_seatOwner_24
  · refine g_iconst 15 hX 0 dX12_seatOwner_14 rfl kc_i_0 ?_
    refine g_goto 24 hX dX12_seatOwner_15 (by decide) ?_
    exact g_iret hX hr rfl (Nat.le_refl 0) (Nat.le_refl 0) dX12_seatOwner_24
set_option maxRecDepth 100000 in
set_option maxHeartbeats 4000000 in
theorem k_X12_seatHeight (l : Launch) (g : kG) (N : Nat) (M : kMem) (a0 : Nat) (x1 : Int32) (x2 : Int32) : kMet l g yX12_seatHeight cX12_seatHeight 3 (some .int) 6 0 0 [.ref a0, .int x1, .int x2] M (fun r : Int32 × kMem => (some (.int r.1), r.2)) (F_X12_seatHeight N M a0 x1 x2) := by
  refine k_of (lv := [(0, .ref a0), (1, .int x1), (2, .int x2)]) RX12 (by decide) rfl rfl (Nat.le_of_ble_eq_true rfl) ?_
  intro p e s m args below meth c hX hr _
  unfold F_X12_seatHeight
  refine g_aload_n 1 0 hX dX12_seatHeight_0 rfl rfl ?_
  refine g_iconst 2 hX 0 dX12_seatHeight_1 rfl kc_i_0 ?_
  refine p_X12_63 5 hX dX12_seatHeight_2 rfl ?_
  refine g_klM (fun M1 hM1 => ?_)
  refine g_aload_n 6 0 hX dX12_seatHeight_5 rfl rfl ?_
  refine g_iload_n 7 1 hX dX12_seatHeight_6 rfl rfl ?_
  refine g_iload_n 8 2 hX dX12_seatHeight_7 rfl rfl ?_
  refine g_callV_i 11 hX (k_X12_noSeat l g N M1 a0 x1 x2) lk_X12_noSeat rfl (ci := 12) rfl (Nat.le_of_ble_eq_true rfl) q_2098 q_112 (by omega) rfl (Nat.le_of_ble_eq_true rfl) (Nat.zero_le _) (Nat.zero_le _) dX12_seatHeight_8 rfl (fun r2 => ?_)
  refine g_if_eq 18 14 hX dX12_seatHeight_11 (by decide) rfl (fun _ => ?_) (fun _ => ?_)
  · refine g_aload_n 19 0 hX dX12_seatHeight_18 rfl rfl ?_
    refine g_iload_n 20 1 hX dX12_seatHeight_19 rfl rfl ?_
    refine g_iload_n 21 2 hX dX12_seatHeight_20 rfl rfl ?_
    refine g_callV_ip 24 hX (k_X12_height l g N r2.2 a0 x1 x2) lk_X12_height rfl (ci := 12) rfl (Nat.le_of_ble_eq_true rfl) q_1957 q_82 (by omega) rfl (Nat.le_of_ble_eq_true rfl) (Nat.zero_le _) (Nat.zero_le _) dX12_seatHeight_21 rfl (fun r3 => ?_)
    exact g_iret hX hr rfl (Nat.le_refl 0) (Nat.le_refl 0) dX12_seatHeight_24
  · refine g_iconst 15 hX 0 dX12_seatHeight_14 rfl kc_i_0 ?_
    refine g_goto 24 hX dX12_seatHeight_15 (by decide) ?_
    exact g_iret hX hr rfl (Nat.le_refl 0) (Nat.le_refl 0) dX12_seatHeight_24
set_option maxRecDepth 100000 in
set_option maxHeartbeats 4000000 in
theorem k_X12_seatPrice (l : Launch) (g : kG) (N : Nat) (M : kMem) (a0 : Nat) (x1 : Int32) (x2 : Int32) : kMet l g yX12_seatPrice cX12_seatPrice 3 (some .int) 7 0 0 [.ref a0, .int x1, .int x2] M (fun r : Int32 × kMem => (some (.int r.1), r.2)) (F_X12_seatPrice N M a0 x1 x2) := by
  refine k_of (lv := [(0, .ref a0), (1, .int x1), (2, .int x2)]) RX12 (by decide) rfl rfl (Nat.le_of_ble_eq_true rfl) ?_
  intro p e s m args below meth c hX hr _
  unfold F_X12_seatPrice
  refine g_aload_n 1 0 hX dX12_seatPrice_0 rfl rfl ?_
  refine g_iconst 2 hX 0 dX12_seatPrice_1 rfl kc_i_0 ?_
  refine p_X12_63 5 hX dX12_seatPrice_2 rfl ?_
  refine g_klM (fun M1 hM1 => ?_)
  refine g_aload_n 6 0 hX dX12_seatPrice_5 rfl rfl ?_
  refine g_iload_n 7 1 hX dX12_seatPrice_6 rfl rfl ?_
  refine g_iload_n 8 2 hX dX12_seatPrice_7 rfl rfl ?_
  refine g_callV_i 11 hX (k_X12_noSeat l g N M1 a0 x1 x2) lk_X12_noSeat rfl (ci := 12) rfl (Nat.le_of_ble_eq_true rfl) q_2098 q_112 (by omega) rfl (Nat.le_of_ble_eq_true rfl) (Nat.zero_le _) (Nat.zero_le _) dX12_seatPrice_8 rfl (fun r2 => ?_)
  refine g_if_eq 18 14 hX dX12_seatPrice_11 (by decide) rfl (fun _ => ?_) (fun _ => ?_)
  · refine g_aload_n 19 0 hX dX12_seatPrice_18 rfl rfl ?_
    refine g_iload_n 20 1 hX dX12_seatPrice_19 rfl rfl ?_
    refine g_iload_n 21 2 hX dX12_seatPrice_20 rfl rfl ?_
    refine g_callV_ip 24 hX (k_X12_price l g N r2.2 a0 x1 x2) lk_X12_price rfl (ci := 12) rfl (Nat.le_of_ble_eq_true rfl) q_1950 q_81 (by omega) rfl (Nat.le_of_ble_eq_true rfl) (Nat.zero_le _) (Nat.zero_le _) dX12_seatPrice_21 rfl (fun r3 => ?_)
    exact g_iret hX hr rfl (Nat.le_refl 0) (Nat.le_refl 0) dX12_seatPrice_24
  · refine g_iconst 15 hX 0 dX12_seatPrice_14 rfl kc_i_0 ?_
    refine g_goto 24 hX dX12_seatPrice_15 (by decide) ?_
    exact g_iret hX hr rfl (Nat.le_refl 0) (Nat.le_refl 0) dX12_seatPrice_24
set_option maxRecDepth 100000 in
set_option maxHeartbeats 4000000 in
theorem k_X12_balancingSeat_90 {p : Program} {l : Launch} {e : Env} {s : State} {m : MethodId} {args : Array Value} {below : List Frame} {meth : Method} {c : Code} {g : kG} (hX : Cok (p, l, e, { frames := 2 * 5, cells := 0, slots := 0, locals := 60 * 5 }, s, m, args, below, meth, c, cX12_balancingSeat, 7, RX12, g, 5)) (hr : meth.sig.returnType = (some .int)) (N : Nat) (k58 : kMem → Nat → Int32 → Int32 → Int32 → Int32 → Int32 → Option (Int32 × kMem)) (h58 : ∀ (M : kMem) (a0 : Nat) (x1 : Int32) (x2 : Int32) (x3 : Int32) (x4 : Int32) (x5 : Int32), GG (p, l, e, { frames := 2 * 5, cells := 0, slots := 0, locals := 60 * 5 }, s, m, args, below, meth, c, cX12_balancingSeat, 7, RX12, g, 5) (fun b => MQ below (kQ g ((fun r : Int32 × kMem => (some (.int r.1), r.2)) b)) args s 0 0 (kZ g.2.2.1)) 0 0 (k58 M a0 x1 x2 x3 x4 x5) 58 [(0, .ref a0), (1, .int x1), (2, .int x2), (3, .int x3), (4, .int x4), (5, .int x5)] [] M) : ∀ (M : kMem) (a0 : Nat) (x1 : Int32) (x2 : Int32) (x3 : Int32) (x4 : Int32) (x5 : Int32) (y0 : Int32), GG (p, l, e, { frames := 2 * 5, cells := 0, slots := 0, locals := 60 * 5 }, s, m, args, below, meth, c, cX12_balancingSeat, 7, RX12, g, 5) (fun b => MQ below (kQ g ((fun r : Int32 × kMem => (some (.int r.1), r.2)) b)) args s 0 0 (kZ g.2.2.1)) 0 0 (F_X12_balancingSeat_90 N k58 M a0 x1 x2 x3 x4 x5 y0) 90 [(0, .ref a0), (1, .int x1), (2, .int x2), (3, .int x3), (4, .int x4), (5, .int x5)] [.int y0] M := by
  intro M a0 x1 x2 x3 x4 x5 y0
  unfold F_X12_balancingSeat_90
  refine g_istore 92 6 [(6, .int y0), (0, .ref a0), (1, .int x1), (2, .int x2), (3, .int x3), (4, .int x4), (5, .int x5)] hX dX12_balancingSeat_90 rfl (Nat.le_of_ble_eq_true rfl) rfl ?_
  refine g_iload 94 0 hX dX12_balancingSeat_92 rfl rfl ?_
  refine g_if_eq 126 97 hX dX12_balancingSeat_94 (by decide) rfl (fun _ => ?_) (fun _ => ?_)
  · refine g_kl (fun v9 hv9 => ?_)
    refine g_iinc 129 5 6 v9 [(5, .int v9), (6, .int y0), (0, .ref a0), (1, .int x1), (2, .int x2), (3, .int x3), (4, .int x4)] hX dX12_balancingSeat_126 rfl rfl (by rw [hv9, kc_i_1]) (Nat.le_of_ble_eq_true rfl) rfl ?_
    refine g_goto 58 hX dX12_balancingSeat_129 (by decide) ?_
    refine g_lv [2, 3, 4, 5, 6, 0] rfl ?_
    exact h58 M a0 x1 x2 x3 x4 v9
  · refine g_iload_n 98 4 hX dX12_balancingSeat_97 rfl rfl ?_
    refine g_if_eq 123 101 hX dX12_balancingSeat_98 (by decide) rfl (fun _ => ?_) (fun _ => ?_)
    · refine g_iload 125 6 hX dX12_balancingSeat_123 rfl rfl ?_
      refine g_istore_n 126 3 [(3, .int x5), (6, .int y0), (0, .ref a0), (1, .int x1), (2, .int x2), (4, .int x4), (5, .int x5)] hX dX12_balancingSeat_125 rfl rfl (Nat.le_of_ble_eq_true rfl) rfl ?_
      refine g_kl (fun v10 hv10 => ?_)
      refine g_iinc 129 5 6 v10 [(5, .int v10), (3, .int x5), (6, .int y0), (0, .ref a0), (1, .int x1), (2, .int x2), (4, .int x4)] hX dX12_balancingSeat_126 rfl rfl (by rw [hv10, kc_i_1]) (Nat.le_of_ble_eq_true rfl) rfl ?_
      refine g_goto 58 hX dX12_balancingSeat_129 (by decide) ?_
      refine g_lv [3, 4, 5, 1, 6, 0] rfl ?_
      exact h58 M a0 x1 x2 x5 x4 v10
    · refine g_iload 103 5 hX dX12_balancingSeat_101 rfl rfl ?_
      refine g_iload 105 6 hX dX12_balancingSeat_103 rfl rfl ?_
      refine g_iload_n 106 3 hX dX12_balancingSeat_105 rfl rfl ?_
      refine g_imul 107 hX dX12_balancingSeat_106 rfl ?_
      refine g_iadd 108 hX dX12_balancingSeat_107 rfl ?_
      refine g_callS_ip 111 hX (k_X12_bare l g N M (x4 + (x5 * x2))) lk_X12_bare q_1954 (by omega) rfl (Nat.le_of_ble_eq_true rfl) (Nat.zero_le _) (Nat.zero_le _) dX12_balancingSeat_108 rfl (fun r11 => ?_)
      refine g_iload 113 5 hX dX12_balancingSeat_111 rfl rfl ?_
      refine g_iload_n 114 4 hX dX12_balancingSeat_113 rfl rfl ?_
      refine g_iload_n 115 3 hX dX12_balancingSeat_114 rfl rfl ?_
      refine g_imul 116 hX dX12_balancingSeat_115 rfl ?_
      refine g_iadd 117 hX dX12_balancingSeat_116 rfl ?_
      refine g_callS_ip 120 hX (k_X12_bare l g N M (x4 + (x3 * x2))) lk_X12_bare q_1954 (by omega) rfl (Nat.le_of_ble_eq_true rfl) (Nat.zero_le _) (Nat.zero_le _) dX12_balancingSeat_117 rfl (fun r12 => ?_)
      refine g_icmp_ge 126 123 hX dX12_balancingSeat_120 (by decide) rfl (fun _ => ?_) (fun _ => ?_)
      · refine g_kl (fun v13 hv13 => ?_)
        refine g_iinc 129 5 6 v13 [(5, .int v13), (6, .int y0), (0, .ref a0), (1, .int x1), (2, .int x2), (3, .int x3), (4, .int x4)] hX dX12_balancingSeat_126 rfl rfl (by rw [hv13, kc_i_1]) (Nat.le_of_ble_eq_true rfl) rfl ?_
        refine g_goto 58 hX dX12_balancingSeat_129 (by decide) ?_
        refine g_lv [2, 3, 4, 5, 6, 0] rfl ?_
        exact h58 M a0 x1 x2 x3 x4 v13
      · refine g_iload 125 6 hX dX12_balancingSeat_123 rfl rfl ?_
        refine g_istore_n 126 3 [(3, .int x5), (6, .int y0), (0, .ref a0), (1, .int x1), (2, .int x2), (4, .int x4), (5, .int x5)] hX dX12_balancingSeat_125 rfl rfl (Nat.le_of_ble_eq_true rfl) rfl ?_
        refine g_kl (fun v14 hv14 => ?_)
        refine g_iinc 129 5 6 v14 [(5, .int v14), (3, .int x5), (6, .int y0), (0, .ref a0), (1, .int x1), (2, .int x2), (4, .int x4)] hX dX12_balancingSeat_126 rfl rfl (by rw [hv14, kc_i_1]) (Nat.le_of_ble_eq_true rfl) rfl ?_
        refine g_goto 58 hX dX12_balancingSeat_129 (by decide) ?_
        refine g_lv [3, 4, 5, 1, 6, 0] rfl ?_
        exact h58 M a0 x1 x2 x5 x4 v14
set_option maxRecDepth 100000 in
set_option maxHeartbeats 4000000 in
theorem k_X12_balancingSeat_89 {p : Program} {l : Launch} {e : Env} {s : State} {m : MethodId} {args : Array Value} {below : List Frame} {meth : Method} {c : Code} {g : kG} (hX : Cok (p, l, e, { frames := 2 * 5, cells := 0, slots := 0, locals := 60 * 5 }, s, m, args, below, meth, c, cX12_balancingSeat, 7, RX12, g, 5)) (hr : meth.sig.returnType = (some .int)) (N : Nat) (k58 : kMem → Nat → Int32 → Int32 → Int32 → Int32 → Int32 → Option (Int32 × kMem)) (h58 : ∀ (M : kMem) (a0 : Nat) (x1 : Int32) (x2 : Int32) (x3 : Int32) (x4 : Int32) (x5 : Int32), GG (p, l, e, { frames := 2 * 5, cells := 0, slots := 0, locals := 60 * 5 }, s, m, args, below, meth, c, cX12_balancingSeat, 7, RX12, g, 5) (fun b => MQ below (kQ g ((fun r : Int32 × kMem => (some (.int r.1), r.2)) b)) args s 0 0 (kZ g.2.2.1)) 0 0 (k58 M a0 x1 x2 x3 x4 x5) 58 [(0, .ref a0), (1, .int x1), (2, .int x2), (3, .int x3), (4, .int x4), (5, .int x5)] [] M) : ∀ (M : kMem) (a0 : Nat) (x1 : Int32) (x2 : Int32) (x3 : Int32) (x4 : Int32) (x5 : Int32), GG (p, l, e, { frames := 2 * 5, cells := 0, slots := 0, locals := 60 * 5 }, s, m, args, below, meth, c, cX12_balancingSeat, 7, RX12, g, 5) (fun b => MQ below (kQ g ((fun r : Int32 × kMem => (some (.int r.1), r.2)) b)) args s 0 0 (kZ g.2.2.1)) 0 0 (F_X12_balancingSeat_89 N k58 M a0 x1 x2 x3 x4 x5) 89 [(0, .ref a0), (1, .int x1), (2, .int x2), (3, .int x3), (4, .int x4), (5, .int x5)] [] M := by
  intro M a0 x1 x2 x3 x4 x5
  unfold F_X12_balancingSeat_89
  refine g_iconst 90 hX 0 dX12_balancingSeat_89 rfl kc_i_0 ?_
  exact k_X12_balancingSeat_90 hX hr N k58 h58 M a0 x1 x2 x3 x4 x5 0
set_option maxRecDepth 100000 in
set_option maxHeartbeats 4000000 in
theorem k_X12_balancingSeat_58 {p : Program} {l : Launch} {e : Env} {s : State} {m : MethodId} {args : Array Value} {below : List Frame} {meth : Method} {c : Code} {g : kG} (hX : Cok (p, l, e, { frames := 2 * 5, cells := 0, slots := 0, locals := 60 * 5 }, s, m, args, below, meth, c, cX12_balancingSeat, 7, RX12, g, 5)) (hr : meth.sig.returnType = (some .int)) (N : Nat) : ∀ (n : Nat) (M : kMem) (a0 : Nat) (x1 : Int32) (x2 : Int32) (x3 : Int32) (x4 : Int32) (x5 : Int32), GG (p, l, e, { frames := 2 * 5, cells := 0, slots := 0, locals := 60 * 5 }, s, m, args, below, meth, c, cX12_balancingSeat, 7, RX12, g, 5) (fun b => MQ below (kQ g ((fun r : Int32 × kMem => (some (.int r.1), r.2)) b)) args s 0 0 (kZ g.2.2.1)) 0 0 (F_X12_balancingSeat_58 N n M a0 x1 x2 x3 x4 x5) 58 [(0, .ref a0), (1, .int x1), (2, .int x2), (3, .int x3), (4, .int x4), (5, .int x5)] [] M := by
  intro n
  induction n with
  | zero => intro _ _ _ _ _ _ _; exact g_none
  | succ n ih =>
    intro M a0 x1 x2 x3 x4 x5
    unfold F_X12_balancingSeat_58
    refine g_iload 60 5 hX dX12_balancingSeat_58 rfl rfl ?_
    refine g_aload_n 61 0 hX dX12_balancingSeat_60 rfl rfl ?_
    refine g_iload_n 62 1 hX dX12_balancingSeat_61 rfl rfl ?_
    refine g_iconst 63 hX 0 dX12_balancingSeat_62 rfl kc_i_0 ?_
    refine g_callV_ip 66 hX (k_X12_ofBoard l g N M a0 x1 0) lk_X12_ofBoard rfl (ci := 12) rfl (Nat.le_of_ble_eq_true rfl) q_1867 q_64 (by omega) rfl (Nat.le_of_ble_eq_true rfl) (Nat.zero_le _) (Nat.zero_le _) dX12_balancingSeat_63 rfl (fun r8 => ?_)
    refine g_icmp_gt 132 69 hX dX12_balancingSeat_66 (by decide) rfl (fun _ => ?_) (fun _ => ?_)
    · refine g_iload_n 133 3 hX dX12_balancingSeat_132 rfl rfl ?_
      exact g_iret hX hr rfl (Nat.le_refl 0) (Nat.le_refl 0) dX12_balancingSeat_133
    · refine g_iload 71 5 hX dX12_balancingSeat_69 rfl rfl ?_
      refine g_if_eq 89 74 hX dX12_balancingSeat_71 (by decide) rfl (fun _ => ?_) (fun _ => ?_)
      · exact k_X12_balancingSeat_89 hX hr N (fun M a0 x1 x2 x3 x4 x5 => F_X12_balancingSeat_58 N n M a0 x1 x2 x3 x4 x5) ih M a0 x1 x2 x3 x4 x5
      · refine g_aload_n 75 0 hX dX12_balancingSeat_74 rfl rfl ?_
        refine g_iload_n 76 1 hX dX12_balancingSeat_75 rfl rfl ?_
        refine g_iload 78 5 hX dX12_balancingSeat_76 rfl rfl ?_
        refine g_callV_ip 81 hX (k_X12_onSeat l g N M a0 x1 x5) lk_X12_onSeat rfl (ci := 12) rfl (Nat.le_of_ble_eq_true rfl) q_1871 q_65 (by omega) rfl (Nat.le_of_ble_eq_true rfl) (Nat.zero_le _) (Nat.zero_le _) dX12_balancingSeat_78 rfl (fun r15 => ?_)
        refine g_iconst 82 hX (-1) dX12_balancingSeat_81 rfl kc_i_m1 ?_
        refine g_icmp_ne 89 85 hX dX12_balancingSeat_82 (by decide) rfl (fun _ => ?_) (fun _ => ?_)
        · exact k_X12_balancingSeat_89 hX hr N (fun M a0 x1 x2 x3 x4 x5 => F_X12_balancingSeat_58 N n M a0 x1 x2 x3 x4 x5) ih M a0 x1 x2 x3 x4 x5
        · refine g_iconst 86 hX 1 dX12_balancingSeat_85 rfl kc_i_1 ?_
          refine g_goto 90 hX dX12_balancingSeat_86 (by decide) ?_
          exact k_X12_balancingSeat_90 hX hr N (fun M a0 x1 x2 x3 x4 x5 => F_X12_balancingSeat_58 N n M a0 x1 x2 x3 x4 x5) ih M a0 x1 x2 x3 x4 x5 1
set_option maxRecDepth 100000 in
set_option maxHeartbeats 4000000 in
theorem k_X12_balancingSeat_31 {p : Program} {l : Launch} {e : Env} {s : State} {m : MethodId} {args : Array Value} {below : List Frame} {meth : Method} {c : Code} {g : kG} (hX : Cok (p, l, e, { frames := 2 * 5, cells := 0, slots := 0, locals := 60 * 5 }, s, m, args, below, meth, c, cX12_balancingSeat, 7, RX12, g, 5)) (hr : meth.sig.returnType = (some .int)) (N : Nat) : ∀ (M : kMem) (a0 : Nat) (x1 : Int32) (x2 : Int32) (y0 : Nat) (y1 : Int32), GG (p, l, e, { frames := 2 * 5, cells := 0, slots := 0, locals := 60 * 5 }, s, m, args, below, meth, c, cX12_balancingSeat, 7, RX12, g, 5) (fun b => MQ below (kQ g ((fun r : Int32 × kMem => (some (.int r.1), r.2)) b)) args s 0 0 (kZ g.2.2.1)) 0 0 (F_X12_balancingSeat_31 N M a0 x1 x2 y0 y1) 31 [(0, .ref a0), (1, .int x1), (2, .int x2)] [.int y1, .ref y0] M := by
  intro M a0 x1 x2 y0 y1
  unfold F_X12_balancingSeat_31
  refine g_iconst 32 hX 2 dX12_balancingSeat_31 rfl kc_i_2 ?_
  refine g_callV_i 35 hX (k_X12_stops l g N M y0 y1 2) lk_X12_stops rfl (ci := 12) rfl (Nat.le_of_ble_eq_true rfl) q_1742 q_42 (by omega) rfl (Nat.le_of_ble_eq_true rfl) (Nat.zero_le _) (Nat.zero_le _) dX12_balancingSeat_32 rfl (fun r4 => ?_)
  refine g_if_eq 40 38 hX dX12_balancingSeat_35 (by decide) rfl (fun _ => ?_) (fun _ => ?_)
  · refine g_iconst 41 hX 0 dX12_balancingSeat_40 rfl kc_i_0 ?_
    refine g_istore_n 42 3 [(3, .int 0), (0, .ref a0), (1, .int x1), (2, .int x2)] hX dX12_balancingSeat_41 rfl rfl (Nat.le_of_ble_eq_true rfl) rfl ?_
    refine g_aload_n 43 1 hX dX12_balancingSeat_42 rfl rfl ?_
    refine g_iload_n 44 2 hX dX12_balancingSeat_43 rfl rfl ?_
    refine g_callV_ip 47 hX (k_X12_torqueOf l g N r4.2 a0 x1) lk_X12_torqueOf rfl (ci := 12) rfl (Nat.le_of_ble_eq_true rfl) q_1961 q_83 (by omega) rfl (Nat.le_of_ble_eq_true rfl) (Nat.zero_le _) (Nat.zero_le _) dX12_balancingSeat_44 rfl (fun r5 => ?_)
    refine g_istore 49 4 [(4, .int r5), (3, .int 0), (0, .ref a0), (1, .int x1), (2, .int x2)] hX dX12_balancingSeat_47 rfl (Nat.le_of_ble_eq_true rfl) rfl ?_
    refine g_aload_n 50 2 hX dX12_balancingSeat_49 rfl rfl ?_
    refine g_iload_n 51 3 hX dX12_balancingSeat_50 rfl rfl ?_
    refine g_iconst 52 hX 0 dX12_balancingSeat_51 rfl kc_i_0 ?_
    refine g_callV_ip 55 hX (k_X12_ofBoard l g N r4.2 a0 x1 0) lk_X12_ofBoard rfl (ci := 12) rfl (Nat.le_of_ble_eq_true rfl) q_1867 q_64 (by omega) rfl (Nat.le_of_ble_eq_true rfl) (Nat.zero_le _) (Nat.zero_le _) dX12_balancingSeat_52 rfl (fun r6 => ?_)
    refine g_ineg 56 hX dX12_balancingSeat_55 rfl ?_
    refine g_klI (fun v7 hv7 => ?_)
    refine g_istore 58 5 [(5, .int v7), (4, .int r5), (3, .int 0), (0, .ref a0), (1, .int x1), (2, .int x2)] hX dX12_balancingSeat_56 rfl (Nat.le_of_ble_eq_true rfl) rfl ?_
    refine g_lv [3, 4, 5, 2, 1, 0] rfl ?_
    exact k_X12_balancingSeat_58 hX hr N N r4.2 a0 x1 x2 0 r5 v7
  · refine g_iconst 39 hX 0 dX12_balancingSeat_38 rfl kc_i_0 ?_
    exact g_iret hX hr rfl (Nat.le_refl 0) (Nat.le_refl 0) dX12_balancingSeat_39
set_option maxRecDepth 100000 in
set_option maxHeartbeats 4000000 in
theorem k_X12_balancingSeat (l : Launch) (g : kG) (N : Nat) (M : kMem) (a0 : Nat) (x1 : Int32) (x2 : Int32) : kMet l g yX12_balancingSeat cX12_balancingSeat 7 (some .int) 5 0 0 [.ref a0, .int x1, .int x2] M (fun r : Int32 × kMem => (some (.int r.1), r.2)) (F_X12_balancingSeat N M a0 x1 x2) := by
  refine k_of (lv := [(0, .ref a0), (1, .int x1), (2, .int x2)]) RX12 (by decide) rfl rfl (Nat.le_of_ble_eq_true rfl) ?_
  intro p e s m args below meth c hX hr _
  unfold F_X12_balancingSeat
  refine g_aload_n 1 0 hX dX12_balancingSeat_0 rfl rfl ?_
  refine g_iconst 2 hX 0 dX12_balancingSeat_1 rfl kc_i_0 ?_
  refine p_X12_63 5 hX dX12_balancingSeat_2 rfl ?_
  refine g_klM (fun M1 hM1 => ?_)
  refine g_aload_n 6 0 hX dX12_balancingSeat_5 rfl rfl ?_
  refine g_iload_n 7 1 hX dX12_balancingSeat_6 rfl rfl ?_
  refine g_callV_i 10 hX (k_X12_noBoard l g N M1 a0 x1) lk_X12_noBoard rfl (ci := 12) rfl (Nat.le_of_ble_eq_true rfl) q_2102 q_113 (by omega) rfl (Nat.le_of_ble_eq_true rfl) (Nat.zero_le _) (Nat.zero_le _) dX12_balancingSeat_7 rfl (fun r2 => ?_)
  refine g_if_ne 38 13 hX dX12_balancingSeat_10 (by decide) rfl (fun _ => ?_) (fun _ => ?_)
  · refine g_iconst 39 hX 0 dX12_balancingSeat_38 rfl kc_i_0 ?_
    exact g_iret hX hr rfl (Nat.le_refl 0) (Nat.le_refl 0) dX12_balancingSeat_39
  · refine g_aload_n 14 0 hX dX12_balancingSeat_13 rfl rfl ?_
    refine g_iload_n 15 2 hX dX12_balancingSeat_14 rfl rfl ?_
    refine g_i2l 16 hX dX12_balancingSeat_15 rfl ?_
    refine g_lconst 17 hX 1 dX12_balancingSeat_16 rfl rfl ?_
    refine g_ldc2 20 hX 99 dX12_balancingSeat_17 rfl q_2084 ?_
    refine g_callS_ip 23 hX (k_X12_in l g N r2.2 x2.toInt64 1 99) lk_X12_in q_1754 (by omega) rfl (Nat.le_of_ble_eq_true rfl) (Nat.zero_le _) (Nat.zero_le _) dX12_balancingSeat_20 rfl (fun r3 => ?_)
    refine g_if_ne 30 26 hX dX12_balancingSeat_23 (by decide) rfl (fun _ => ?_) (fun _ => ?_)
    · refine g_iconst 31 hX 0 dX12_balancingSeat_30 rfl kc_i_0 ?_
      exact k_X12_balancingSeat_31 hX hr N r2.2 a0 x1 x2 a0 0
    · refine g_iconst 27 hX 1 dX12_balancingSeat_26 rfl kc_i_1 ?_
      refine g_goto 31 hX dX12_balancingSeat_27 (by decide) ?_
      exact k_X12_balancingSeat_31 hX hr N r2.2 a0 x1 x2 a0 1
set_option maxRecDepth 100000 in
set_option maxHeartbeats 4000000 in
theorem k_X12_traderCount (l : Launch) (g : kG) (N : Nat) (M : kMem) (a0 : Nat) : kMet l g yX12_traderCount cX12_traderCount 1 (some .int) 1 0 0 [.ref a0] M (fun r : Int32 × kMem => (some (.int r.1), r.2)) (F_X12_traderCount N M a0) := by
  refine k_of (lv := [(0, .ref a0)]) RX12 (by decide) rfl rfl (Nat.le_of_ble_eq_true rfl) ?_
  intro p e s m args below meth c hX hr _
  unfold F_X12_traderCount
  refine g_aload_n 1 0 hX dX12_traderCount_0 rfl rfl ?_
  refine g_iconst 2 hX 0 dX12_traderCount_1 rfl kc_i_0 ?_
  refine p_X12_63 5 hX dX12_traderCount_2 rfl ?_
  refine g_klM (fun M1 hM1 => ?_)
  refine g_aload_n 6 0 hX dX12_traderCount_5 rfl rfl ?_
  refine r_X12_7 9 hX dX12_traderCount_6 rfl ?_
  refine g_bipush 11 hX 8 dX12_traderCount_9 rfl kc_b_8 ?_
  refine g_iald 12 hX dX12_traderCount_11 rfl ?_
  exact g_iret hX hr rfl (Nat.le_refl 0) (Nat.le_refl 0) dX12_traderCount_12
set_option maxRecDepth 100000 in
set_option maxHeartbeats 4000000 in
theorem k_X12_findTrader (l : Launch) (g : kG) (N : Nat) (M : kMem) (a0 : Nat) : kMet l g yX12_findTrader cX12_findTrader 2 (some .int) 4 0 0 [.ref a0] M (fun r : Int32 × kMem => (some (.int r.1), r.2)) (F_X12_findTrader N M a0) := by
  refine k_of (lv := [(0, .ref a0)]) RX12 (by decide) rfl rfl (Nat.le_of_ble_eq_true rfl) ?_
  intro p e s m args below meth c hX hr _
  unfold F_X12_findTrader
  refine g_aload_n 1 0 hX dX12_findTrader_0 rfl rfl ?_
  refine g_iconst 2 hX 0 dX12_findTrader_1 rfl kc_i_0 ?_
  refine p_X12_63 5 hX dX12_findTrader_2 rfl ?_
  refine g_klM (fun M1 hM1 => ?_)
  refine g_aload_n 6 0 hX dX12_findTrader_5 rfl rfl ?_
  refine g_callV_ip 9 hX (k_X12_wholeName l g N M1 a0) lk_X12_wholeName rfl (ci := 12) rfl (Nat.le_of_ble_eq_true rfl) q_2086 q_110 (by omega) rfl (Nat.le_of_ble_eq_true rfl) (Nat.zero_le _) (Nat.zero_le _) dX12_findTrader_6 rfl (fun r2 => ?_)
  refine g_istore_n 10 1 [(1, .int r2), (0, .ref a0)] hX dX12_findTrader_9 rfl rfl (Nat.le_of_ble_eq_true rfl) rfl ?_
  refine g_iload_n 11 0 hX dX12_findTrader_10 rfl rfl ?_
  refine g_if_ne 18 14 hX dX12_findTrader_11 (by decide) rfl (fun _ => ?_) (fun _ => ?_)
  · refine g_aload_n 19 1 hX dX12_findTrader_18 rfl rfl ?_
    refine g_iload_n 20 0 hX dX12_findTrader_19 rfl rfl ?_
    refine g_callV_ip 23 hX (k_X12_traderNamed l g N M1 a0 r2) lk_X12_traderNamed rfl (ci := 12) rfl (Nat.le_of_ble_eq_true rfl) q_1845 q_60 (by omega) rfl (Nat.le_of_ble_eq_true rfl) (Nat.zero_le _) (Nat.zero_le _) dX12_findTrader_20 rfl (fun r3 => ?_)
    exact g_iret hX hr rfl (Nat.le_refl 0) (Nat.le_refl 0) dX12_findTrader_23
  · refine g_iconst 15 hX (-1) dX12_findTrader_14 rfl kc_i_m1 ?_
    refine g_goto 23 hX dX12_findTrader_15 (by decide) ?_
    exact g_iret hX hr rfl (Nat.le_refl 0) (Nat.le_refl 0) dX12_findTrader_23
set_option maxRecDepth 100000 in
set_option maxHeartbeats 4000000 in
theorem k_X12_lettersOf_4 {p : Program} {l : Launch} {e : Env} {s : State} {m : MethodId} {args : Array Value} {below : List Frame} {meth : Method} {c : Code} {g : kG} (hX : Cok (p, l, e, { frames := 2 * 1, cells := 0, slots := 0, locals := 60 * 1 }, s, m, args, below, meth, c, cX12_lettersOf, 3, RX12, g, 1)) (hr : meth.sig.returnType = (some .int)) (N : Nat) (M : kMem) : ∀ (n : Nat) (x1 : Int32) (x2 : Int32), GG (p, l, e, { frames := 2 * 1, cells := 0, slots := 0, locals := 60 * 1 }, s, m, args, below, meth, c, cX12_lettersOf, 3, RX12, g, 1) (fun b => MQ below (kQ g ((fun r : Int32 => (some (.int r), M)) b)) args s 0 0 (kZ g.2.2.1)) 0 0 (F_X12_lettersOf_4 N M n x1 x2) 4 [(1, .int x1), (2, .int x2)] [] M := by
  intro n
  induction n with
  | zero => intro _ _; exact g_none
  | succ n ih =>
    intro x1 x2
    unfold F_X12_lettersOf_4
    refine g_iload_n 5 1 hX dX12_lettersOf_4 rfl rfl ?_
    refine g_if_le 18 8 hX dX12_lettersOf_5 (by decide) rfl (fun _ => ?_) (fun _ => ?_)
    · refine g_iload_n 19 0 hX dX12_lettersOf_18 rfl rfl ?_
      exact g_iret hX hr rfl (Nat.le_refl 0) (Nat.le_refl 0) dX12_lettersOf_19
    · refine g_kl (fun v1 hv1 => ?_)
      refine g_iinc 11 1 0 v1 [(1, .int v1), (2, .int x2)] hX dX12_lettersOf_8 rfl rfl (by rw [hv1, kc_i_1]) (Nat.le_of_ble_eq_true rfl) rfl ?_
      refine g_iload_n 12 1 hX dX12_lettersOf_11 rfl rfl ?_
      refine g_iconst 13 hX 5 dX12_lettersOf_12 rfl kc_i_5 ?_
      refine g_ishr 14 hX dX12_lettersOf_13 rfl ?_
      refine g_klI (fun v2 hv2 => ?_)
      refine g_istore_n 15 2 [(2, .int v2), (1, .int v1)] hX dX12_lettersOf_14 rfl rfl (Nat.le_of_ble_eq_true rfl) rfl ?_
      refine g_goto 4 hX dX12_lettersOf_15 (by decide) ?_
      refine g_lv [1, 0] rfl ?_
      exact ih v1 v2
set_option maxRecDepth 100000 in
set_option maxHeartbeats 4000000 in
theorem k_X12_lettersOf (l : Launch) (g : kG) (N : Nat) (M : kMem) (x0 : Int32) : kMet l g yX12_lettersOf cX12_lettersOf 3 (some .int) 1 0 0 [.int x0] M (fun r : Int32 => (some (.int r), M)) (F_X12_lettersOf N M x0) := by
  refine k_of (lv := [(0, .int x0)]) RX12 (by decide) rfl rfl (Nat.le_of_ble_eq_true rfl) ?_
  intro p e s m args below meth c hX hr _
  unfold F_X12_lettersOf
  refine g_iconst 1 hX 0 dX12_lettersOf_0 rfl kc_i_0 ?_
  refine g_istore_n 2 1 [(1, .int 0), (0, .int x0)] hX dX12_lettersOf_1 rfl rfl (Nat.le_of_ble_eq_true rfl) rfl ?_
  refine g_iload_n 3 1 hX dX12_lettersOf_2 rfl rfl ?_
  refine g_istore_n 4 2 [(2, .int x0), (1, .int 0), (0, .int x0)] hX dX12_lettersOf_3 rfl rfl (Nat.le_of_ble_eq_true rfl) rfl ?_
  refine g_lv [1, 0] rfl ?_
  exact k_X12_lettersOf_4 hX hr N M N 0 x0
set_option maxRecDepth 100000 in
set_option maxHeartbeats 4000000 in
theorem k_X12_letterOf (l : Launch) (g : kG) (N : Nat) (M : kMem) (x0 : Int32) (x1 : Int32) : kMet l g yX12_letterOf cX12_letterOf 3 (some .int) 2 0 0 [.int x0, .int x1] M (fun r : Int32 => (some (.int r), M)) (F_X12_letterOf N M x0 x1) := by
  refine k_of (lv := [(0, .int x0), (1, .int x1)]) RX12 (by decide) rfl rfl (Nat.le_of_ble_eq_true rfl) ?_
  intro p e s m args below meth c hX hr _
  unfold F_X12_letterOf
  refine g_iload_n 1 0 hX dX12_letterOf_0 rfl rfl ?_
  refine g_callS_ip 4 hX (k_X12_lettersOf l g N M x0) lk_X12_lettersOf q_2232 (by omega) rfl (Nat.le_of_ble_eq_true rfl) (Nat.zero_le _) (Nat.zero_le _) dX12_letterOf_1 rfl (fun r1 => ?_)
  refine g_istore_n 5 2 [(2, .int r1), (0, .int x0), (1, .int x1)] hX dX12_letterOf_4 rfl rfl (Nat.le_of_ble_eq_true rfl) rfl ?_
  refine g_iload_n 6 2 hX dX12_letterOf_5 rfl rfl ?_
  refine g_i2l 7 hX dX12_letterOf_6 rfl ?_
  refine g_lconst 8 hX 0 dX12_letterOf_7 rfl rfl ?_
  refine g_iload_n 9 0 hX dX12_letterOf_8 rfl rfl ?_
  refine g_iconst 10 hX 1 dX12_letterOf_9 rfl kc_i_1 ?_
  refine g_isub 11 hX dX12_letterOf_10 rfl ?_
  refine g_i2l 12 hX dX12_letterOf_11 rfl ?_
  refine g_callS_ip 15 hX (k_X12_in l g N M x1.toInt64 0 ((r1 - 1).toInt64)) lk_X12_in q_1754 (by omega) rfl (Nat.le_of_ble_eq_true rfl) (Nat.zero_le _) (Nat.zero_le _) dX12_letterOf_12 rfl (fun r2 => ?_)
  refine g_if_eq 36 18 hX dX12_letterOf_15 (by decide) rfl (fun _ => ?_) (fun _ => ?_)
  · refine g_iconst 37 hX (-1) dX12_letterOf_36 rfl kc_i_m1 ?_
    exact g_iret hX hr rfl (Nat.le_refl 0) (Nat.le_refl 0) dX12_letterOf_37
  · refine g_iload_n 19 1 hX dX12_letterOf_18 rfl rfl ?_
    refine g_iconst 20 hX 5 dX12_letterOf_19 rfl kc_i_5 ?_
    refine g_iload_n 21 0 hX dX12_letterOf_20 rfl rfl ?_
    refine g_iconst 22 hX 1 dX12_letterOf_21 rfl kc_i_1 ?_
    refine g_isub 23 hX dX12_letterOf_22 rfl ?_
    refine g_iload_n 24 2 hX dX12_letterOf_23 rfl rfl ?_
    refine g_isub 25 hX dX12_letterOf_24 rfl ?_
    refine g_imul 26 hX dX12_letterOf_25 rfl ?_
    refine g_ishr 27 hX dX12_letterOf_26 rfl ?_
    refine g_bipush 29 hX 31 dX12_letterOf_27 rfl kc_b_31 ?_
    refine g_iand 30 hX dX12_letterOf_29 rfl ?_
    refine g_bipush 32 hX 96 dX12_letterOf_30 rfl kc_b_96 ?_
    refine g_iadd 33 hX dX12_letterOf_32 rfl ?_
    refine g_goto 37 hX dX12_letterOf_33 (by decide) ?_
    exact g_iret hX hr rfl (Nat.le_refl 0) (Nat.le_refl 0) dX12_letterOf_37
set_option maxRecDepth 100000 in
set_option maxHeartbeats 4000000 in
theorem k_X12_nameLetter (l : Launch) (g : kG) (N : Nat) (M : kMem) (a0 : Nat) (x1 : Int32) (x2 : Int32) : kMet l g yX12_nameLetter cX12_nameLetter 3 (some .int) 3 0 0 [.ref a0, .int x1, .int x2] M (fun r : Int32 × kMem => (some (.int r.1), r.2)) (F_X12_nameLetter N M a0 x1 x2) := by
  refine k_of (lv := [(0, .ref a0), (1, .int x1), (2, .int x2)]) RX12 (by decide) rfl rfl (Nat.le_of_ble_eq_true rfl) ?_
  intro p e s m args below meth c hX hr _
  unfold F_X12_nameLetter
  refine g_aload_n 1 0 hX dX12_nameLetter_0 rfl rfl ?_
  refine g_iconst 2 hX 0 dX12_nameLetter_1 rfl kc_i_0 ?_
  refine p_X12_63 5 hX dX12_nameLetter_2 rfl ?_
  refine g_klM (fun M1 hM1 => ?_)
  refine g_aload_n 6 0 hX dX12_nameLetter_5 rfl rfl ?_
  refine g_iload_n 7 1 hX dX12_nameLetter_6 rfl rfl ?_
  refine g_callV_i 10 hX (k_X12_noTrader l g N M1 a0 x1) lk_X12_noTrader rfl (ci := 12) rfl (Nat.le_of_ble_eq_true rfl) q_2094 q_111 (by omega) rfl (Nat.le_of_ble_eq_true rfl) (Nat.zero_le _) (Nat.zero_le _) dX12_nameLetter_7 rfl (fun r2 => ?_)
  refine g_if_eq 17 13 hX dX12_nameLetter_10 (by decide) rfl (fun _ => ?_) (fun _ => ?_)
  · refine g_aload_n 18 0 hX dX12_nameLetter_17 rfl rfl ?_
    refine g_iload_n 19 1 hX dX12_nameLetter_18 rfl rfl ?_
    refine g_iconst 20 hX 0 dX12_nameLetter_19 rfl kc_i_0 ?_
    refine g_callV_ip 23 hX (k_X12_has l g N r2.2 a0 x1 0) lk_X12_has rfl (ci := 12) rfl (Nat.le_of_ble_eq_true rfl) q_1635 q_40 (by omega) rfl (Nat.le_of_ble_eq_true rfl) (Nat.zero_le _) (Nat.zero_le _) dX12_nameLetter_20 rfl (fun r3 => ?_)
    refine g_iload_n 24 2 hX dX12_nameLetter_23 rfl rfl ?_
    refine g_callS_ip 27 hX (k_X12_letterOf l g N r2.2 r3 x2) lk_X12_letterOf q_2229 (by omega) rfl (Nat.le_of_ble_eq_true rfl) (Nat.zero_le _) (Nat.zero_le _) dX12_nameLetter_24 rfl (fun r4 => ?_)
    exact g_iret hX hr rfl (Nat.le_refl 0) (Nat.le_refl 0) dX12_nameLetter_27
  · refine g_iconst 14 hX 0 dX12_nameLetter_13 rfl kc_i_0 ?_
    refine g_goto 27 hX dX12_nameLetter_14 (by decide) ?_
    exact g_iret hX hr rfl (Nat.le_refl 0) (Nat.le_refl 0) dX12_nameLetter_27
set_option maxRecDepth 100000 in
set_option maxHeartbeats 4000000 in
theorem k_X12_asked (l : Launch) (g : kG) (N : Nat) (M : kMem) (a0 : Nat) (x1 : Int32) (x2 : Int32) : kMet l g yX12_asked cX12_asked 3 (some .int) 3 0 0 [.ref a0, .int x1, .int x2] M (fun r : Int32 × kMem => (some (.int r.1), r.2)) (F_X12_asked N M a0 x1 x2) := by
  refine k_of (lv := [(0, .ref a0), (1, .int x1), (2, .int x2)]) RX12 (by decide) rfl rfl (Nat.le_of_ble_eq_true rfl) ?_
  intro p e s m args below meth c hX hr _
  unfold F_X12_asked
  refine g_aload_n 1 0 hX dX12_asked_0 rfl rfl ?_
  refine g_iconst 2 hX 0 dX12_asked_1 rfl kc_i_0 ?_
  refine p_X12_63 5 hX dX12_asked_2 rfl ?_
  refine g_klM (fun M1 hM1 => ?_)
  refine g_aload_n 6 0 hX dX12_asked_5 rfl rfl ?_
  refine g_iload_n 7 1 hX dX12_asked_6 rfl rfl ?_
  refine g_callV_i 10 hX (k_X12_noTrader l g N M1 a0 x1) lk_X12_noTrader rfl (ci := 12) rfl (Nat.le_of_ble_eq_true rfl) q_2094 q_111 (by omega) rfl (Nat.le_of_ble_eq_true rfl) (Nat.zero_le _) (Nat.zero_le _) dX12_asked_7 rfl (fun r2 => ?_)
  refine g_if_eq 17 13 hX dX12_asked_10 (by decide) rfl (fun _ => ?_) (fun _ => ?_)
  · refine g_aload_n 18 0 hX dX12_asked_17 rfl rfl ?_
    refine g_iload_n 19 1 hX dX12_asked_18 rfl rfl ?_
    refine g_iload_n 20 2 hX dX12_asked_19 rfl rfl ?_
    refine g_callV_ip 23 hX (k_X12_has l g N r2.2 a0 x1 x2) lk_X12_has rfl (ci := 12) rfl (Nat.le_of_ble_eq_true rfl) q_1635 q_40 (by omega) rfl (Nat.le_of_ble_eq_true rfl) (Nat.zero_le _) (Nat.zero_le _) dX12_asked_20 rfl (fun r3 => ?_)
    exact g_iret hX hr rfl (Nat.le_refl 0) (Nat.le_refl 0) dX12_asked_23
  · refine g_iconst 14 hX 0 dX12_asked_13 rfl kc_i_0 ?_
    refine g_goto 23 hX dX12_asked_14 (by decide) ?_
    exact g_iret hX hr rfl (Nat.le_refl 0) (Nat.le_refl 0) dX12_asked_23
set_option maxRecDepth 100000 in
set_option maxHeartbeats 4000000 in
theorem k_X12_weightOf (l : Launch) (g : kG) (N : Nat) (M : kMem) (a0 : Nat) (x1 : Int32) : kMet l g yX12_weightOf cX12_weightOf 2 (some .int) 4 0 0 [.ref a0, .int x1] M (fun r : Int32 × kMem => (some (.int r.1), r.2)) (F_X12_weightOf N M a0 x1) := by
  refine k_of (lv := [(0, .ref a0), (1, .int x1)]) RX12 (by decide) rfl rfl (Nat.le_of_ble_eq_true rfl) ?_
  intro p e s m args below meth c hX hr _
  unfold F_X12_weightOf
  refine g_aload_n 1 0 hX dX12_weightOf_0 rfl rfl ?_
  refine g_iload_n 2 1 hX dX12_weightOf_1 rfl rfl ?_
  refine g_iconst 3 hX 1 dX12_weightOf_2 rfl kc_i_1 ?_
  refine g_callV_i 6 hX (k_X12_asked l g N M a0 x1 1) lk_X12_asked rfl (ci := 12) rfl (Nat.le_of_ble_eq_true rfl) q_2239 q_117 (by omega) rfl (Nat.le_of_ble_eq_true rfl) (Nat.zero_le _) (Nat.zero_le _) dX12_weightOf_3 rfl (fun r1 => ?_)
  exact g_iret hX hr rfl (Nat.le_refl 0) (Nat.le_refl 0) dX12_weightOf_6
set_option maxRecDepth 100000 in
set_option maxHeartbeats 4000000 in
theorem k_X12_purseOf (l : Launch) (g : kG) (N : Nat) (M : kMem) (a0 : Nat) (x1 : Int32) : kMet l g yX12_purseOf cX12_purseOf 2 (some .int) 4 0 0 [.ref a0, .int x1] M (fun r : Int32 × kMem => (some (.int r.1), r.2)) (F_X12_purseOf N M a0 x1) := by
  refine k_of (lv := [(0, .ref a0), (1, .int x1)]) RX12 (by decide) rfl rfl (Nat.le_of_ble_eq_true rfl) ?_
  intro p e s m args below meth c hX hr _
  unfold F_X12_purseOf
  refine g_aload_n 1 0 hX dX12_purseOf_0 rfl rfl ?_
  refine g_iload_n 2 1 hX dX12_purseOf_1 rfl rfl ?_
  refine g_iconst 3 hX 2 dX12_purseOf_2 rfl kc_i_2 ?_
  refine g_callV_i 6 hX (k_X12_asked l g N M a0 x1 2) lk_X12_asked rfl (ci := 12) rfl (Nat.le_of_ble_eq_true rfl) q_2239 q_117 (by omega) rfl (Nat.le_of_ble_eq_true rfl) (Nat.zero_le _) (Nat.zero_le _) dX12_purseOf_3 rfl (fun r1 => ?_)
  exact g_iret hX hr rfl (Nat.le_refl 0) (Nat.le_refl 0) dX12_purseOf_6
set_option maxRecDepth 100000 in
set_option maxHeartbeats 4000000 in
theorem k_X12_ageOf (l : Launch) (g : kG) (N : Nat) (M : kMem) (a0 : Nat) (x1 : Int32) : kMet l g yX12_ageOf cX12_ageOf 2 (some .int) 4 0 0 [.ref a0, .int x1] M (fun r : Int32 × kMem => (some (.int r.1), r.2)) (F_X12_ageOf N M a0 x1) := by
  refine k_of (lv := [(0, .ref a0), (1, .int x1)]) RX12 (by decide) rfl rfl (Nat.le_of_ble_eq_true rfl) ?_
  intro p e s m args below meth c hX hr _
  unfold F_X12_ageOf
  refine g_aload_n 1 0 hX dX12_ageOf_0 rfl rfl ?_
  refine g_iload_n 2 1 hX dX12_ageOf_1 rfl rfl ?_
  refine g_iconst 3 hX 3 dX12_ageOf_2 rfl kc_i_3 ?_
  refine g_callV_i 6 hX (k_X12_asked l g N M a0 x1 3) lk_X12_asked rfl (ci := 12) rfl (Nat.le_of_ble_eq_true rfl) q_2239 q_117 (by omega) rfl (Nat.le_of_ble_eq_true rfl) (Nat.zero_le _) (Nat.zero_le _) dX12_ageOf_3 rfl (fun r1 => ?_)
  exact g_iret hX hr rfl (Nat.le_refl 0) (Nat.le_refl 0) dX12_ageOf_6
set_option maxRecDepth 100000 in
set_option maxHeartbeats 4000000 in
theorem k_X12_isPresent (l : Launch) (g : kG) (N : Nat) (M : kMem) (a0 : Nat) (x1 : Int32) : kMet l g yX12_isPresent cX12_isPresent 2 (some .boolean) 3 0 0 [.ref a0, .int x1] M (fun r : Int32 × kMem => (some (.int r.1), r.2)) (F_X12_isPresent N M a0 x1) := by
  refine k_of (lv := [(0, .ref a0), (1, .int x1)]) RX12 (by decide) rfl rfl (Nat.le_of_ble_eq_true rfl) ?_
  intro p e s m args below meth c hX hr _
  unfold F_X12_isPresent
  refine g_aload_n 1 0 hX dX12_isPresent_0 rfl rfl ?_
  refine g_iconst 2 hX 0 dX12_isPresent_1 rfl kc_i_0 ?_
  refine p_X12_63 5 hX dX12_isPresent_2 rfl ?_
  refine g_klM (fun M1 hM1 => ?_)
  refine g_aload_n 6 0 hX dX12_isPresent_5 rfl rfl ?_
  refine g_iload_n 7 1 hX dX12_isPresent_6 rfl rfl ?_
  refine g_callV_i 10 hX (k_X12_noTrader l g N M1 a0 x1) lk_X12_noTrader rfl (ci := 12) rfl (Nat.le_of_ble_eq_true rfl) q_2094 q_111 (by omega) rfl (Nat.le_of_ble_eq_true rfl) (Nat.zero_le _) (Nat.zero_le _) dX12_isPresent_7 rfl (fun r2 => ?_)
  refine g_if_ne 27 13 hX dX12_isPresent_10 (by decide) rfl (fun _ => ?_) (fun _ => ?_)
  · refine g_iconst 28 hX 0 dX12_isPresent_27 rfl kc_i_0 ?_
    exact g_zretL hX hr rfl rfl (Nat.le_refl 0) (Nat.le_refl 0) dX12_isPresent_28
  · refine g_aload_n 14 0 hX dX12_isPresent_13 rfl rfl ?_
    refine g_iload_n 15 1 hX dX12_isPresent_14 rfl rfl ?_
    refine g_iconst 16 hX 4 dX12_isPresent_15 rfl kc_i_4 ?_
    refine g_callV_ip 19 hX (k_X12_has l g N r2.2 a0 x1 4) lk_X12_has rfl (ci := 12) rfl (Nat.le_of_ble_eq_true rfl) q_1635 q_40 (by omega) rfl (Nat.le_of_ble_eq_true rfl) (Nat.zero_le _) (Nat.zero_le _) dX12_isPresent_16 rfl (fun r3 => ?_)
    refine g_iconst 20 hX 1 dX12_isPresent_19 rfl kc_i_1 ?_
    refine g_icmp_ne 27 23 hX dX12_isPresent_20 (by decide) rfl (fun _ => ?_) (fun _ => ?_)
    · refine g_iconst 28 hX 0 dX12_isPresent_27 rfl kc_i_0 ?_
      exact g_zretL hX hr rfl rfl (Nat.le_refl 0) (Nat.le_refl 0) dX12_isPresent_28
    · refine g_iconst 24 hX 1 dX12_isPresent_23 rfl kc_i_1 ?_
      refine g_goto 28 hX dX12_isPresent_24 (by decide) ?_
      exact g_zretL hX hr rfl rfl (Nat.le_refl 0) (Nat.le_refl 0) dX12_isPresent_28
set_option maxRecDepth 100000 in
set_option maxHeartbeats 4000000 in
theorem k_X12_boardOf (l : Launch) (g : kG) (N : Nat) (M : kMem) (a0 : Nat) (x1 : Int32) : kMet l g yX12_boardOf cX12_boardOf 2 (some .int) 4 0 0 [.ref a0, .int x1] M (fun r : Int32 × kMem => (some (.int r.1), r.2)) (F_X12_boardOf N M a0 x1) := by
  refine k_of (lv := [(0, .ref a0), (1, .int x1)]) RX12 (by decide) rfl rfl (Nat.le_of_ble_eq_true rfl) ?_
  intro p e s m args below meth c hX hr _
  unfold F_X12_boardOf
  refine g_aload_n 1 0 hX dX12_boardOf_0 rfl rfl ?_
  refine g_iload_n 2 1 hX dX12_boardOf_1 rfl rfl ?_
  refine g_iconst 3 hX 5 dX12_boardOf_2 rfl kc_i_5 ?_
  refine g_callV_i 6 hX (k_X12_asked l g N M a0 x1 5) lk_X12_asked rfl (ci := 12) rfl (Nat.le_of_ble_eq_true rfl) q_2239 q_117 (by omega) rfl (Nat.le_of_ble_eq_true rfl) (Nat.zero_le _) (Nat.zero_le _) dX12_boardOf_3 rfl (fun r1 => ?_)
  exact g_iret hX hr rfl (Nat.le_refl 0) (Nat.le_refl 0) dX12_boardOf_6
set_option maxRecDepth 100000 in
set_option maxHeartbeats 4000000 in
theorem k_X12_positionOf (l : Launch) (g : kG) (N : Nat) (M : kMem) (a0 : Nat) (x1 : Int32) : kMet l g yX12_positionOf cX12_positionOf 2 (some .int) 4 0 0 [.ref a0, .int x1] M (fun r : Int32 × kMem => (some (.int r.1), r.2)) (F_X12_positionOf N M a0 x1) := by
  refine k_of (lv := [(0, .ref a0), (1, .int x1)]) RX12 (by decide) rfl rfl (Nat.le_of_ble_eq_true rfl) ?_
  intro p e s m args below meth c hX hr _
  unfold F_X12_positionOf
  refine g_aload_n 1 0 hX dX12_positionOf_0 rfl rfl ?_
  refine g_iload_n 2 1 hX dX12_positionOf_1 rfl rfl ?_
  refine g_bipush 4 hX 6 dX12_positionOf_2 rfl kc_b_6 ?_
  refine g_callV_i 7 hX (k_X12_asked l g N M a0 x1 6) lk_X12_asked rfl (ci := 12) rfl (Nat.le_of_ble_eq_true rfl) q_2239 q_117 (by omega) rfl (Nat.le_of_ble_eq_true rfl) (Nat.zero_le _) (Nat.zero_le _) dX12_positionOf_4 rfl (fun r1 => ?_)
  exact g_iret hX hr rfl (Nat.le_refl 0) (Nat.le_refl 0) dX12_positionOf_7
set_option maxRecDepth 100000 in
set_option maxHeartbeats 4000000 in
theorem k_X12_incomeOf (l : Launch) (g : kG) (N : Nat) (M : kMem) (a0 : Nat) (x1 : Int32) : kMet l g yX12_incomeOf cX12_incomeOf 2 (some .int) 7 0 0 [.ref a0, .int x1] M (fun r : Int32 × kMem => (some (.int r.1), r.2)) (F_X12_incomeOf N M a0 x1) := by
  refine k_of (lv := [(0, .ref a0), (1, .int x1)]) RX12 (by decide) rfl rfl (Nat.le_of_ble_eq_true rfl) ?_
  intro p e s m args below meth c hX hr _
  unfold F_X12_incomeOf
  refine g_aload_n 1 0 hX dX12_incomeOf_0 rfl rfl ?_
  refine g_iconst 2 hX 0 dX12_incomeOf_1 rfl kc_i_0 ?_
  refine p_X12_63 5 hX dX12_incomeOf_2 rfl ?_
  refine g_klM (fun M1 hM1 => ?_)
  refine g_aload_n 6 0 hX dX12_incomeOf_5 rfl rfl ?_
  refine g_iload_n 7 1 hX dX12_incomeOf_6 rfl rfl ?_
  refine g_callV_i 10 hX (k_X12_noTrader l g N M1 a0 x1) lk_X12_noTrader rfl (ci := 12) rfl (Nat.le_of_ble_eq_true rfl) q_2094 q_111 (by omega) rfl (Nat.le_of_ble_eq_true rfl) (Nat.zero_le _) (Nat.zero_le _) dX12_incomeOf_7 rfl (fun r2 => ?_)
  refine g_if_ne 21 13 hX dX12_incomeOf_10 (by decide) rfl (fun _ => ?_) (fun _ => ?_)
  · refine g_iconst 22 hX 0 dX12_incomeOf_21 rfl kc_i_0 ?_
    refine g_goto 37 hX dX12_incomeOf_22 (by decide) ?_
    exact g_iret hX hr rfl (Nat.le_refl 0) (Nat.le_refl 0) dX12_incomeOf_37
  · refine g_aload_n 14 0 hX dX12_incomeOf_13 rfl rfl ?_
    refine g_iload_n 15 1 hX dX12_incomeOf_14 rfl rfl ?_
    refine g_callV_ip 18 hX (k_X12_isSeated l g N r2.2 a0 x1) lk_X12_isSeated rfl (ci := 12) rfl (Nat.le_of_ble_eq_true rfl) q_1857 q_62 (by omega) rfl (Nat.le_of_ble_eq_true rfl) (Nat.zero_le _) (Nat.zero_le _) dX12_incomeOf_15 rfl (fun r3 => ?_)
    refine g_if_ne 25 21 hX dX12_incomeOf_18 (by decide) rfl (fun _ => ?_) (fun _ => ?_)
    · refine g_aload_n 26 0 hX dX12_incomeOf_25 rfl rfl ?_
      refine r_X12_7 29 hX dX12_incomeOf_26 rfl ?_
      refine g_iconst 30 hX 0 dX12_incomeOf_29 rfl kc_i_0 ?_
      refine g_iald 31 hX dX12_incomeOf_30 rfl ?_
      refine g_aload_n 32 0 hX dX12_incomeOf_31 rfl rfl ?_
      refine g_iload_n 33 1 hX dX12_incomeOf_32 rfl rfl ?_
      refine g_callV_ip 36 hX (k_X12_ownHeight l g N r2.2 a0 x1) lk_X12_ownHeight rfl (ci := 12) rfl (Nat.le_of_ble_eq_true rfl) q_2016 q_96 (by omega) rfl (Nat.le_of_ble_eq_true rfl) (Nat.zero_le _) (Nat.zero_le _) dX12_incomeOf_33 rfl (fun r4 => ?_)
      refine g_iadd 37 hX dX12_incomeOf_36 rfl ?_
      exact g_iret hX hr rfl (Nat.le_refl 0) (Nat.le_refl 0) dX12_incomeOf_37
    · refine g_iconst 22 hX 0 dX12_incomeOf_21 rfl kc_i_0 ?_
      refine g_goto 37 hX dX12_incomeOf_22 (by decide) ?_
      exact g_iret hX hr rfl (Nat.le_refl 0) (Nat.le_refl 0) dX12_incomeOf_37
set_option maxRecDepth 100000 in
set_option maxHeartbeats 4000000 in
theorem k_X12_isRicher (l : Launch) (g : kG) (N : Nat) (M : kMem) (a0 : Nat) (x1 : Int32) (x2 : Int32) : kMet l g yX12_isRicher cX12_isRicher 3 (some .boolean) 3 0 0 [.ref a0, .int x1, .int x2] M (fun r : Int32 => (some (.int r), M)) (F_X12_isRicher N M a0 x1 x2) := by
  refine k_of (lv := [(0, .ref a0), (1, .int x1), (2, .int x2)]) RX12 (by decide) rfl rfl (Nat.le_of_ble_eq_true rfl) ?_
  intro p e s m args below meth c hX hr _
  unfold F_X12_isRicher
  refine g_aload_n 1 0 hX dX12_isRicher_0 rfl rfl ?_
  refine g_iload_n 2 1 hX dX12_isRicher_1 rfl rfl ?_
  refine g_iconst 3 hX 2 dX12_isRicher_2 rfl kc_i_2 ?_
  refine g_callV_ip 6 hX (k_X12_has l g N M a0 x1 2) lk_X12_has rfl (ci := 12) rfl (Nat.le_of_ble_eq_true rfl) q_1635 q_40 (by omega) rfl (Nat.le_of_ble_eq_true rfl) (Nat.zero_le _) (Nat.zero_le _) dX12_isRicher_3 rfl (fun r1 => ?_)
  refine g_aload_n 7 0 hX dX12_isRicher_6 rfl rfl ?_
  refine g_iload_n 8 2 hX dX12_isRicher_7 rfl rfl ?_
  refine g_iconst 9 hX 2 dX12_isRicher_8 rfl kc_i_2 ?_
  refine g_callV_ip 12 hX (k_X12_has l g N M a0 x2 2) lk_X12_has rfl (ci := 12) rfl (Nat.le_of_ble_eq_true rfl) q_1635 q_40 (by omega) rfl (Nat.le_of_ble_eq_true rfl) (Nat.zero_le _) (Nat.zero_le _) dX12_isRicher_9 rfl (fun r2 => ?_)
  refine g_icmp_gt 35 15 hX dX12_isRicher_12 (by decide) rfl (fun _ => ?_) (fun _ => ?_)
  · refine g_iconst 36 hX 1 dX12_isRicher_35 rfl kc_i_1 ?_
    refine g_goto 40 hX dX12_isRicher_36 (by decide) ?_
    exact g_zretL hX hr rfl rfl (Nat.le_refl 0) (Nat.le_refl 0) dX12_isRicher_40
  · refine g_aload_n 16 0 hX dX12_isRicher_15 rfl rfl ?_
    refine g_iload_n 17 1 hX dX12_isRicher_16 rfl rfl ?_
    refine g_iconst 18 hX 2 dX12_isRicher_17 rfl kc_i_2 ?_
    refine g_callV_ip 21 hX (k_X12_has l g N M a0 x1 2) lk_X12_has rfl (ci := 12) rfl (Nat.le_of_ble_eq_true rfl) q_1635 q_40 (by omega) rfl (Nat.le_of_ble_eq_true rfl) (Nat.zero_le _) (Nat.zero_le _) dX12_isRicher_18 rfl (fun r3 => ?_)
    refine g_aload_n 22 0 hX dX12_isRicher_21 rfl rfl ?_
    refine g_iload_n 23 2 hX dX12_isRicher_22 rfl rfl ?_
    refine g_iconst 24 hX 2 dX12_isRicher_23 rfl kc_i_2 ?_
    refine g_callV_ip 27 hX (k_X12_has l g N M a0 x2 2) lk_X12_has rfl (ci := 12) rfl (Nat.le_of_ble_eq_true rfl) q_1635 q_40 (by omega) rfl (Nat.le_of_ble_eq_true rfl) (Nat.zero_le _) (Nat.zero_le _) dX12_isRicher_24 rfl (fun r4 => ?_)
    refine g_icmp_ne 39 30 hX dX12_isRicher_27 (by decide) rfl (fun _ => ?_) (fun _ => ?_)
    · refine g_iconst 40 hX 0 dX12_isRicher_39 rfl kc_i_0 ?_
      exact g_zretL hX hr rfl rfl (Nat.le_refl 0) (Nat.le_refl 0) dX12_isRicher_40
    · refine g_iload_n 31 1 hX dX12_isRicher_30 rfl rfl ?_
      refine g_iload_n 32 2 hX dX12_isRicher_31 rfl rfl ?_
      refine g_icmp_ge 39 35 hX dX12_isRicher_32 (by decide) rfl (fun _ => ?_) (fun _ => ?_)
      · refine g_iconst 40 hX 0 dX12_isRicher_39 rfl kc_i_0 ?_
        exact g_zretL hX hr rfl rfl (Nat.le_refl 0) (Nat.le_refl 0) dX12_isRicher_40
      · refine g_iconst 36 hX 1 dX12_isRicher_35 rfl kc_i_1 ?_
        refine g_goto 40 hX dX12_isRicher_36 (by decide) ?_
        exact g_zretL hX hr rfl rfl (Nat.le_refl 0) (Nat.le_refl 0) dX12_isRicher_40
set_option maxRecDepth 100000 in
set_option maxHeartbeats 4000000 in
theorem k_X12_richerThan_4 {p : Program} {l : Launch} {e : Env} {s : State} {m : MethodId} {args : Array Value} {below : List Frame} {meth : Method} {c : Code} {g : kG} (hX : Cok (p, l, e, { frames := 2 * 4, cells := 0, slots := 0, locals := 60 * 4 }, s, m, args, below, meth, c, cX12_richerThan, 4, RX12, g, 4)) (hr : meth.sig.returnType = (some .int)) (N : Nat) (M : kMem) : ∀ (n : Nat) (a0 : Nat) (x1 : Int32) (x2 : Int32) (x3 : Int32), GG (p, l, e, { frames := 2 * 4, cells := 0, slots := 0, locals := 60 * 4 }, s, m, args, below, meth, c, cX12_richerThan, 4, RX12, g, 4) (fun b => MQ below (kQ g ((fun r : Int32 => (some (.int r), M)) b)) args s 0 0 (kZ g.2.2.1)) 0 0 (F_X12_richerThan_4 N M n a0 x1 x2 x3) 4 [(0, .ref a0), (1, .int x1), (2, .int x2), (3, .int x3)] [] M := by
  intro n
  induction n with
  | zero => intro _ _ _ _; exact g_none
  | succ n ih =>
    intro a0 x1 x2 x3
    unfold F_X12_richerThan_4
    refine g_iload_n 5 3 hX dX12_richerThan_4 rfl rfl ?_
    refine g_aload_n 6 0 hX dX12_richerThan_5 rfl rfl ?_
    refine r_X12_7 9 hX dX12_richerThan_6 rfl ?_
    refine g_bipush 11 hX 8 dX12_richerThan_9 rfl kc_b_8 ?_
    refine g_iald 12 hX dX12_richerThan_11 rfl ?_
    refine g_icmp_ge 56 15 hX dX12_richerThan_12 (by decide) rfl (fun _ => ?_) (fun _ => ?_)
    · refine g_iload_n 57 2 hX dX12_richerThan_56 rfl rfl ?_
      exact g_iret hX hr rfl (Nat.le_refl 0) (Nat.le_refl 0) dX12_richerThan_57
    · refine g_iload_n 16 2 hX dX12_richerThan_15 rfl rfl ?_
      refine g_iload_n 17 3 hX dX12_richerThan_16 rfl rfl ?_
      refine g_iload_n 18 1 hX dX12_richerThan_17 rfl rfl ?_
      refine g_icmp_eq 44 21 hX dX12_richerThan_18 (by decide) rfl (fun _ => ?_) (fun _ => ?_)
      · refine g_iconst 45 hX 0 dX12_richerThan_44 rfl kc_i_0 ?_
        refine g_callS_ip 48 hX (k_X12_flag l g N M 0) lk_X12_flag q_1935 (by omega) rfl (Nat.le_of_ble_eq_true rfl) (Nat.zero_le _) (Nat.zero_le _) dX12_richerThan_45 rfl (fun r1 => ?_)
        refine g_iadd 49 hX dX12_richerThan_48 rfl ?_
        refine g_klI (fun v2 hv2 => ?_)
        refine g_istore_n 50 2 [(2, .int v2), (0, .ref a0), (1, .int x1), (3, .int x3)] hX dX12_richerThan_49 rfl rfl (Nat.le_of_ble_eq_true rfl) rfl ?_
        refine g_kl (fun v3 hv3 => ?_)
        refine g_iinc 53 3 3 v3 [(3, .int v3), (2, .int v2), (0, .ref a0), (1, .int x1)] hX dX12_richerThan_50 rfl rfl (by rw [hv3, kc_i_1]) (Nat.le_of_ble_eq_true rfl) rfl ?_
        refine g_goto 4 hX dX12_richerThan_53 (by decide) ?_
        refine g_lv [2, 3, 1, 0] rfl ?_
        exact ih a0 x1 v2 v3
      · refine g_aload_n 22 0 hX dX12_richerThan_21 rfl rfl ?_
        refine g_iload_n 23 3 hX dX12_richerThan_22 rfl rfl ?_
        refine g_iconst 24 hX 4 dX12_richerThan_23 rfl kc_i_4 ?_
        refine g_callV_ip 27 hX (k_X12_has l g N M a0 x3 4) lk_X12_has rfl (ci := 12) rfl (Nat.le_of_ble_eq_true rfl) q_1635 q_40 (by omega) rfl (Nat.le_of_ble_eq_true rfl) (Nat.zero_le _) (Nat.zero_le _) dX12_richerThan_24 rfl (fun r4 => ?_)
        refine g_iconst 28 hX 1 dX12_richerThan_27 rfl kc_i_1 ?_
        refine g_icmp_ne 44 31 hX dX12_richerThan_28 (by decide) rfl (fun _ => ?_) (fun _ => ?_)
        · refine g_iconst 45 hX 0 dX12_richerThan_44 rfl kc_i_0 ?_
          refine g_callS_ip 48 hX (k_X12_flag l g N M 0) lk_X12_flag q_1935 (by omega) rfl (Nat.le_of_ble_eq_true rfl) (Nat.zero_le _) (Nat.zero_le _) dX12_richerThan_45 rfl (fun r5 => ?_)
          refine g_iadd 49 hX dX12_richerThan_48 rfl ?_
          refine g_klI (fun v6 hv6 => ?_)
          refine g_istore_n 50 2 [(2, .int v6), (0, .ref a0), (1, .int x1), (3, .int x3)] hX dX12_richerThan_49 rfl rfl (Nat.le_of_ble_eq_true rfl) rfl ?_
          refine g_kl (fun v7 hv7 => ?_)
          refine g_iinc 53 3 3 v7 [(3, .int v7), (2, .int v6), (0, .ref a0), (1, .int x1)] hX dX12_richerThan_50 rfl rfl (by rw [hv7, kc_i_1]) (Nat.le_of_ble_eq_true rfl) rfl ?_
          refine g_goto 4 hX dX12_richerThan_53 (by decide) ?_
          refine g_lv [2, 3, 1, 0] rfl ?_
          exact ih a0 x1 v6 v7
        · refine g_aload_n 32 0 hX dX12_richerThan_31 rfl rfl ?_
          refine g_iload_n 33 3 hX dX12_richerThan_32 rfl rfl ?_
          refine g_iload_n 34 1 hX dX12_richerThan_33 rfl rfl ?_
          refine g_callV_ip 37 hX (k_X12_isRicher l g N M a0 x3 x1) lk_X12_isRicher rfl (ci := 12) rfl (Nat.le_of_ble_eq_true rfl) q_2275 q_119 (by omega) rfl (Nat.le_of_ble_eq_true rfl) (Nat.zero_le _) (Nat.zero_le _) dX12_richerThan_34 rfl (fun r8 => ?_)
          refine g_if_eq 44 40 hX dX12_richerThan_37 (by decide) rfl (fun _ => ?_) (fun _ => ?_)
          · refine g_iconst 45 hX 0 dX12_richerThan_44 rfl kc_i_0 ?_
            refine g_callS_ip 48 hX (k_X12_flag l g N M 0) lk_X12_flag q_1935 (by omega) rfl (Nat.le_of_ble_eq_true rfl) (Nat.zero_le _) (Nat.zero_le _) dX12_richerThan_45 rfl (fun r9 => ?_)
            refine g_iadd 49 hX dX12_richerThan_48 rfl ?_
            refine g_klI (fun v10 hv10 => ?_)
            refine g_istore_n 50 2 [(2, .int v10), (0, .ref a0), (1, .int x1), (3, .int x3)] hX dX12_richerThan_49 rfl rfl (Nat.le_of_ble_eq_true rfl) rfl ?_
            refine g_kl (fun v11 hv11 => ?_)
            refine g_iinc 53 3 3 v11 [(3, .int v11), (2, .int v10), (0, .ref a0), (1, .int x1)] hX dX12_richerThan_50 rfl rfl (by rw [hv11, kc_i_1]) (Nat.le_of_ble_eq_true rfl) rfl ?_
            refine g_goto 4 hX dX12_richerThan_53 (by decide) ?_
            refine g_lv [2, 3, 1, 0] rfl ?_
            exact ih a0 x1 v10 v11
          · refine g_iconst 41 hX 1 dX12_richerThan_40 rfl kc_i_1 ?_
            refine g_goto 45 hX dX12_richerThan_41 (by decide) ?_
            refine g_callS_ip 48 hX (k_X12_flag l g N M 1) lk_X12_flag q_1935 (by omega) rfl (Nat.le_of_ble_eq_true rfl) (Nat.zero_le _) (Nat.zero_le _) dX12_richerThan_45 rfl (fun r12 => ?_)
            refine g_iadd 49 hX dX12_richerThan_48 rfl ?_
            refine g_klI (fun v13 hv13 => ?_)
            refine g_istore_n 50 2 [(2, .int v13), (0, .ref a0), (1, .int x1), (3, .int x3)] hX dX12_richerThan_49 rfl rfl (Nat.le_of_ble_eq_true rfl) rfl ?_
            refine g_kl (fun v14 hv14 => ?_)
            refine g_iinc 53 3 3 v14 [(3, .int v14), (2, .int v13), (0, .ref a0), (1, .int x1)] hX dX12_richerThan_50 rfl rfl (by rw [hv14, kc_i_1]) (Nat.le_of_ble_eq_true rfl) rfl ?_
            refine g_goto 4 hX dX12_richerThan_53 (by decide) ?_
            refine g_lv [2, 3, 1, 0] rfl ?_
            exact ih a0 x1 v13 v14
set_option maxRecDepth 100000 in
set_option maxHeartbeats 4000000 in
theorem k_X12_richerThan (l : Launch) (g : kG) (N : Nat) (M : kMem) (a0 : Nat) (x1 : Int32) : kMet l g yX12_richerThan cX12_richerThan 4 (some .int) 4 0 0 [.ref a0, .int x1] M (fun r : Int32 => (some (.int r), M)) (F_X12_richerThan N M a0 x1) := by
  refine k_of (lv := [(0, .ref a0), (1, .int x1)]) RX12 (by decide) rfl rfl (Nat.le_of_ble_eq_true rfl) ?_
  intro p e s m args below meth c hX hr _
  unfold F_X12_richerThan
  refine g_iconst 1 hX 0 dX12_richerThan_0 rfl kc_i_0 ?_
  refine g_istore_n 2 2 [(2, .int 0), (0, .ref a0), (1, .int x1)] hX dX12_richerThan_1 rfl rfl (Nat.le_of_ble_eq_true rfl) rfl ?_
  refine g_iconst 3 hX 0 dX12_richerThan_2 rfl kc_i_0 ?_
  refine g_istore_n 4 3 [(3, .int 0), (2, .int 0), (0, .ref a0), (1, .int x1)] hX dX12_richerThan_3 rfl rfl (Nat.le_of_ble_eq_true rfl) rfl ?_
  refine g_lv [2, 3, 1, 0] rfl ?_
  exact k_X12_richerThan_4 hX hr N M N a0 x1 0 0
set_option maxRecDepth 100000 in
set_option maxHeartbeats 4000000 in
theorem k_X12_richestAt_7 {p : Program} {l : Launch} {e : Env} {s : State} {m : MethodId} {args : Array Value} {below : List Frame} {meth : Method} {c : Code} {g : kG} (hX : Cok (p, l, e, { frames := 2 * 5, cells := 0, slots := 0, locals := 60 * 5 }, s, m, args, below, meth, c, cX12_richestAt, 3, RX12, g, 5)) (hr : meth.sig.returnType = (some .int)) (N : Nat) : ∀ (n : Nat) (M : kMem) (a0 : Nat) (x1 : Int32) (x2 : Int32), GG (p, l, e, { frames := 2 * 5, cells := 0, slots := 0, locals := 60 * 5 }, s, m, args, below, meth, c, cX12_richestAt, 3, RX12, g, 5) (fun b => MQ below (kQ g ((fun r : Int32 × kMem => (some (.int r.1), r.2)) b)) args s 0 0 (kZ g.2.2.1)) 0 0 (F_X12_richestAt_7 N n M a0 x1 x2) 7 [(0, .ref a0), (1, .int x1), (2, .int x2)] [] M := by
  intro n
  induction n with
  | zero => intro _ _ _ _; exact g_none
  | succ n ih =>
    intro M a0 x1 x2
    unfold F_X12_richestAt_7
    refine g_iload_n 8 2 hX dX12_richestAt_7 rfl rfl ?_
    refine g_aload_n 9 0 hX dX12_richestAt_8 rfl rfl ?_
    refine r_X12_7 12 hX dX12_richestAt_9 rfl ?_
    refine g_bipush 14 hX 8 dX12_richestAt_12 rfl kc_b_8 ?_
    refine g_iald 15 hX dX12_richestAt_14 rfl ?_
    refine g_icmp_ge 45 18 hX dX12_richestAt_15 (by decide) rfl (fun _ => ?_) (fun _ => ?_)
    · refine g_iconst 46 hX (-1) dX12_richestAt_45 rfl kc_i_m1 ?_
      exact g_iret hX hr rfl (Nat.le_refl 0) (Nat.le_refl 0) dX12_richestAt_46
    · refine g_aload_n 19 0 hX dX12_richestAt_18 rfl rfl ?_
      refine g_iload_n 20 2 hX dX12_richestAt_19 rfl rfl ?_
      refine g_iconst 21 hX 4 dX12_richestAt_20 rfl kc_i_4 ?_
      refine g_callV_ip 24 hX (k_X12_has l g N M a0 x2 4) lk_X12_has rfl (ci := 12) rfl (Nat.le_of_ble_eq_true rfl) q_1635 q_40 (by omega) rfl (Nat.le_of_ble_eq_true rfl) (Nat.zero_le _) (Nat.zero_le _) dX12_richestAt_21 rfl (fun r2 => ?_)
      refine g_iconst 25 hX 1 dX12_richestAt_24 rfl kc_i_1 ?_
      refine g_icmp_ne 39 28 hX dX12_richestAt_25 (by decide) rfl (fun _ => ?_) (fun _ => ?_)
      · refine g_kl (fun v3 hv3 => ?_)
        refine g_iinc 42 2 2 v3 [(2, .int v3), (0, .ref a0), (1, .int x1)] hX dX12_richestAt_39 rfl rfl (by rw [hv3, kc_i_1]) (Nat.le_of_ble_eq_true rfl) rfl ?_
        refine g_goto 7 hX dX12_richestAt_42 (by decide) ?_
        refine g_lv [1, 2, 0] rfl ?_
        exact ih M a0 x1 v3
      · refine g_aload_n 29 0 hX dX12_richestAt_28 rfl rfl ?_
        refine g_iload_n 30 2 hX dX12_richestAt_29 rfl rfl ?_
        refine g_callV_ip 33 hX (k_X12_richerThan l g N M a0 x2) lk_X12_richerThan rfl (ci := 12) rfl (Nat.le_of_ble_eq_true rfl) q_2271 q_118 (by omega) rfl (Nat.le_of_ble_eq_true rfl) (Nat.zero_le _) (Nat.zero_le _) dX12_richestAt_30 rfl (fun r4 => ?_)
        refine g_iload_n 34 1 hX dX12_richestAt_33 rfl rfl ?_
        refine g_icmp_ne 39 37 hX dX12_richestAt_34 (by decide) rfl (fun _ => ?_) (fun _ => ?_)
        · refine g_kl (fun v5 hv5 => ?_)
          refine g_iinc 42 2 2 v5 [(2, .int v5), (0, .ref a0), (1, .int x1)] hX dX12_richestAt_39 rfl rfl (by rw [hv5, kc_i_1]) (Nat.le_of_ble_eq_true rfl) rfl ?_
          refine g_goto 7 hX dX12_richestAt_42 (by decide) ?_
          refine g_lv [1, 2, 0] rfl ?_
          exact ih M a0 x1 v5
        · refine g_iload_n 38 2 hX dX12_richestAt_37 rfl rfl ?_
          exact g_iret hX hr rfl (Nat.le_refl 0) (Nat.le_refl 0) dX12_richestAt_38
set_option maxRecDepth 100000 in
set_option maxHeartbeats 4000000 in
theorem k_X12_richestAt (l : Launch) (g : kG) (N : Nat) (M : kMem) (a0 : Nat) (x1 : Int32) : kMet l g yX12_richestAt cX12_richestAt 3 (some .int) 5 0 0 [.ref a0, .int x1] M (fun r : Int32 × kMem => (some (.int r.1), r.2)) (F_X12_richestAt N M a0 x1) := by
  refine k_of (lv := [(0, .ref a0), (1, .int x1)]) RX12 (by decide) rfl rfl (Nat.le_of_ble_eq_true rfl) ?_
  intro p e s m args below meth c hX hr _
  unfold F_X12_richestAt
  refine g_aload_n 1 0 hX dX12_richestAt_0 rfl rfl ?_
  refine g_iconst 2 hX 0 dX12_richestAt_1 rfl kc_i_0 ?_
  refine p_X12_63 5 hX dX12_richestAt_2 rfl ?_
  refine g_klM (fun M1 hM1 => ?_)
  refine g_iconst 6 hX 0 dX12_richestAt_5 rfl kc_i_0 ?_
  refine g_istore_n 7 2 [(2, .int 0), (0, .ref a0), (1, .int x1)] hX dX12_richestAt_6 rfl rfl (Nat.le_of_ble_eq_true rfl) rfl ?_
  refine g_lv [1, 2, 0] rfl ?_
  exact k_X12_richestAt_7 hX hr N N M1 a0 x1 0
set_option maxRecDepth 100000 in
set_option maxHeartbeats 4000000 in
theorem k_X12_reasonAgainstSeat (l : Launch) (g : kG) (N : Nat) (M : kMem) (a0 : Nat) (x1 : Int32) (x2 : Int32) (x3 : Int32) : kMet l g yX12_reasonAgainstSeat cX12_reasonAgainstSeat 4 (some .int) 8 0 0 [.ref a0, .int x1, .int x2, .int x3] M (fun r : Int32 × kMem => (some (.int r.1), r.2)) (F_X12_reasonAgainstSeat N M a0 x1 x2 x3) := by
  refine k_of (lv := [(0, .ref a0), (1, .int x1), (2, .int x2), (3, .int x3)]) RX12 (by decide) rfl rfl (Nat.le_of_ble_eq_true rfl) ?_
  intro p e s m args below meth c hX hr _
  unfold F_X12_reasonAgainstSeat
  refine g_aload_n 1 0 hX dX12_reasonAgainstSeat_0 rfl rfl ?_
  refine g_iconst 2 hX 0 dX12_reasonAgainstSeat_1 rfl kc_i_0 ?_
  refine p_X12_63 5 hX dX12_reasonAgainstSeat_2 rfl ?_
  refine g_klM (fun M1 hM1 => ?_)
  refine g_aload_n 6 0 hX dX12_reasonAgainstSeat_5 rfl rfl ?_
  refine g_iload_n 7 1 hX dX12_reasonAgainstSeat_6 rfl rfl ?_
  refine g_callV_i 10 hX (k_X12_noTrader l g N M1 a0 x1) lk_X12_noTrader rfl (ci := 12) rfl (Nat.le_of_ble_eq_true rfl) q_2094 q_111 (by omega) rfl (Nat.le_of_ble_eq_true rfl) (Nat.zero_le _) (Nat.zero_le _) dX12_reasonAgainstSeat_7 rfl (fun r2 => ?_)
  refine g_if_ne 22 13 hX dX12_reasonAgainstSeat_10 (by decide) rfl (fun _ => ?_) (fun _ => ?_)
  · refine g_iconst 23 hX 0 dX12_reasonAgainstSeat_22 rfl kc_i_0 ?_
    refine g_goto 33 hX dX12_reasonAgainstSeat_23 (by decide) ?_
    exact g_iret hX hr rfl (Nat.le_refl 0) (Nat.le_refl 0) dX12_reasonAgainstSeat_33
  · refine g_aload_n 14 0 hX dX12_reasonAgainstSeat_13 rfl rfl ?_
    refine g_iload_n 15 2 hX dX12_reasonAgainstSeat_14 rfl rfl ?_
    refine g_iload_n 16 3 hX dX12_reasonAgainstSeat_15 rfl rfl ?_
    refine g_callV_i 19 hX (k_X12_noSeat l g N r2.2 a0 x2 x3) lk_X12_noSeat rfl (ci := 12) rfl (Nat.le_of_ble_eq_true rfl) q_2098 q_112 (by omega) rfl (Nat.le_of_ble_eq_true rfl) (Nat.zero_le _) (Nat.zero_le _) dX12_reasonAgainstSeat_16 rfl (fun r3 => ?_)
    refine g_if_eq 26 22 hX dX12_reasonAgainstSeat_19 (by decide) rfl (fun _ => ?_) (fun _ => ?_)
    · refine g_aload_n 27 0 hX dX12_reasonAgainstSeat_26 rfl rfl ?_
      refine g_iload_n 28 1 hX dX12_reasonAgainstSeat_27 rfl rfl ?_
      refine g_iload_n 29 2 hX dX12_reasonAgainstSeat_28 rfl rfl ?_
      refine g_iload_n 30 3 hX dX12_reasonAgainstSeat_29 rfl rfl ?_
      refine g_callV_ip 33 hX (k_X12_againstSeat l g N r3.2 a0 x1 x2 x3) lk_X12_againstSeat rfl (ci := 12) rfl (Nat.le_of_ble_eq_true rfl) q_1946 q_80 (by omega) rfl (Nat.le_of_ble_eq_true rfl) (Nat.zero_le _) (Nat.zero_le _) dX12_reasonAgainstSeat_30 rfl (fun r4 => ?_)
      exact g_iret hX hr rfl (Nat.le_refl 0) (Nat.le_refl 0) dX12_reasonAgainstSeat_33
    · refine g_iconst 23 hX 0 dX12_reasonAgainstSeat_22 rfl kc_i_0 ?_
      refine g_goto 33 hX dX12_reasonAgainstSeat_23 (by decide) ?_
      exact g_iret hX hr rfl (Nat.le_refl 0) (Nat.le_refl 0) dX12_reasonAgainstSeat_33
set_option maxRecDepth 100000 in
set_option maxHeartbeats 4000000 in
theorem k_X12_reasonAgainstSale (l : Launch) (g : kG) (N : Nat) (M : kMem) (a0 : Nat) (x1 : Int32) (x2 : Int32) (x3 : Int32) : kMet l g yX12_reasonAgainstSale cX12_reasonAgainstSale 4 (some .int) 9 0 0 [.ref a0, .int x1, .int x2, .int x3] M (fun r : Int32 × kMem => (some (.int r.1), r.2)) (F_X12_reasonAgainstSale N M a0 x1 x2 x3) := by
  refine k_of (lv := [(0, .ref a0), (1, .int x1), (2, .int x2), (3, .int x3)]) RX12 (by decide) rfl rfl (Nat.le_of_ble_eq_true rfl) ?_
  intro p e s m args below meth c hX hr _
  unfold F_X12_reasonAgainstSale
  refine g_aload_n 1 0 hX dX12_reasonAgainstSale_0 rfl rfl ?_
  refine g_iconst 2 hX 0 dX12_reasonAgainstSale_1 rfl kc_i_0 ?_
  refine p_X12_63 5 hX dX12_reasonAgainstSale_2 rfl ?_
  refine g_klM (fun M1 hM1 => ?_)
  refine g_aload_n 6 0 hX dX12_reasonAgainstSale_5 rfl rfl ?_
  refine g_iload_n 7 1 hX dX12_reasonAgainstSale_6 rfl rfl ?_
  refine g_iload_n 8 2 hX dX12_reasonAgainstSale_7 rfl rfl ?_
  refine g_iload_n 9 3 hX dX12_reasonAgainstSale_8 rfl rfl ?_
  refine g_callV_i 12 hX (k_X12_noSale l g N M1 a0 x1 x2 x3) lk_X12_noSale rfl (ci := 12) rfl (Nat.le_of_ble_eq_true rfl) q_2114 q_114 (by omega) rfl (Nat.le_of_ble_eq_true rfl) (Nat.zero_le _) (Nat.zero_le _) dX12_reasonAgainstSale_9 rfl (fun r2 => ?_)
  refine g_if_eq 19 15 hX dX12_reasonAgainstSale_12 (by decide) rfl (fun _ => ?_) (fun _ => ?_)
  · refine g_aload_n 20 0 hX dX12_reasonAgainstSale_19 rfl rfl ?_
    refine g_iload_n 21 1 hX dX12_reasonAgainstSale_20 rfl rfl ?_
    refine g_iload_n 22 2 hX dX12_reasonAgainstSale_21 rfl rfl ?_
    refine g_iload_n 23 3 hX dX12_reasonAgainstSale_22 rfl rfl ?_
    refine g_callV_ip 26 hX (k_X12_againstSale l g N r2.2 a0 x1 x2 x3) lk_X12_againstSale rfl (ci := 12) rfl (Nat.le_of_ble_eq_true rfl) q_2008 q_94 (by omega) rfl (Nat.le_of_ble_eq_true rfl) (Nat.zero_le _) (Nat.zero_le _) dX12_reasonAgainstSale_23 rfl (fun r3 => ?_)
    exact g_iret hX hr rfl (Nat.le_refl 0) (Nat.le_refl 0) dX12_reasonAgainstSale_26
  · refine g_iconst 16 hX 0 dX12_reasonAgainstSale_15 rfl kc_i_0 ?_
    refine g_goto 26 hX dX12_reasonAgainstSale_16 (by decide) ?_
    exact g_iret hX hr rfl (Nat.le_refl 0) (Nat.le_refl 0) dX12_reasonAgainstSale_26
set_option maxRecDepth 100000 in
set_option maxHeartbeats 4000000 in
theorem k_X12_reasonAgainstSwap (l : Launch) (g : kG) (N : Nat) (M : kMem) (a0 : Nat) (x1 : Int32) (x2 : Int32) : kMet l g yX12_reasonAgainstSwap cX12_reasonAgainstSwap 3 (some .int) 8 0 0 [.ref a0, .int x1, .int x2] M (fun r : Int32 × kMem => (some (.int r.1), r.2)) (F_X12_reasonAgainstSwap N M a0 x1 x2) := by
  refine k_of (lv := [(0, .ref a0), (1, .int x1), (2, .int x2)]) RX12 (by decide) rfl rfl (Nat.le_of_ble_eq_true rfl) ?_
  intro p e s m args below meth c hX hr _
  unfold F_X12_reasonAgainstSwap
  refine g_aload_n 1 0 hX dX12_reasonAgainstSwap_0 rfl rfl ?_
  refine g_iconst 2 hX 0 dX12_reasonAgainstSwap_1 rfl kc_i_0 ?_
  refine p_X12_63 5 hX dX12_reasonAgainstSwap_2 rfl ?_
  refine g_klM (fun M1 hM1 => ?_)
  refine g_aload_n 6 0 hX dX12_reasonAgainstSwap_5 rfl rfl ?_
  refine g_iload_n 7 1 hX dX12_reasonAgainstSwap_6 rfl rfl ?_
  refine g_iload_n 8 2 hX dX12_reasonAgainstSwap_7 rfl rfl ?_
  refine g_callV_i 11 hX (k_X12_noPair l g N M1 a0 x1 x2) lk_X12_noPair rfl (ci := 12) rfl (Nat.le_of_ble_eq_true rfl) q_2123 q_115 (by omega) rfl (Nat.le_of_ble_eq_true rfl) (Nat.zero_le _) (Nat.zero_le _) dX12_reasonAgainstSwap_8 rfl (fun r2 => ?_)
  refine g_if_eq 18 14 hX dX12_reasonAgainstSwap_11 (by decide) rfl (fun _ => ?_) (fun _ => ?_)
  · refine g_aload_n 19 0 hX dX12_reasonAgainstSwap_18 rfl rfl ?_
    refine g_iload_n 20 1 hX dX12_reasonAgainstSwap_19 rfl rfl ?_
    refine g_iload_n 21 2 hX dX12_reasonAgainstSwap_20 rfl rfl ?_
    refine g_callV_ip 24 hX (k_X12_againstSwap l g N r2.2 a0 x1 x2) lk_X12_againstSwap rfl (ci := 12) rfl (Nat.le_of_ble_eq_true rfl) q_2020 q_97 (by omega) rfl (Nat.le_of_ble_eq_true rfl) (Nat.zero_le _) (Nat.zero_le _) dX12_reasonAgainstSwap_21 rfl (fun r3 => ?_)
    exact g_iret hX hr rfl (Nat.le_refl 0) (Nat.le_refl 0) dX12_reasonAgainstSwap_24
  · refine g_iconst 15 hX 0 dX12_reasonAgainstSwap_14 rfl kc_i_0 ?_
    refine g_goto 24 hX dX12_reasonAgainstSwap_15 (by decide) ?_
    exact g_iret hX hr rfl (Nat.le_refl 0) (Nat.le_refl 0) dX12_reasonAgainstSwap_24
set_option maxRecDepth 100000 in
set_option maxHeartbeats 4000000 in
theorem k_X12_weightUnitPrice_43 {p : Program} {l : Launch} {e : Env} {s : State} {m : MethodId} {args : Array Value} {below : List Frame} {meth : Method} {c : Code} {g : kG} (hX : Cok (p, l, e, { frames := 2 * 8, cells := 0, slots := 0, locals := 60 * 8 }, s, m, args, below, meth, c, cX12_weightUnitPrice, 3, RX12, g, 8)) (hr : meth.sig.returnType = (some .int)) (N : Nat) : ∀ (M : kMem) (a0 : Nat) (x1 : Int32) (x2 : Int32) (y0 : Nat) (y1 : Int32), GG (p, l, e, { frames := 2 * 8, cells := 0, slots := 0, locals := 60 * 8 }, s, m, args, below, meth, c, cX12_weightUnitPrice, 3, RX12, g, 8) (fun b => MQ below (kQ g ((fun r : Int32 × kMem => (some (.int r.1), r.2)) b)) args s 0 0 (kZ g.2.2.1)) 0 0 (F_X12_weightUnitPrice_43 N M a0 x1 x2 y0 y1) 43 [(0, .ref a0), (1, .int x1), (2, .int x2)] [.int y1, .ref y0] M := by
  intro M a0 x1 x2 y0 y1
  unfold F_X12_weightUnitPrice_43
  refine g_iconst 44 hX 2 dX12_weightUnitPrice_43 rfl kc_i_2 ?_
  refine g_callV_i 47 hX (k_X12_stops l g N M y0 y1 2) lk_X12_stops rfl (ci := 12) rfl (Nat.le_of_ble_eq_true rfl) q_1742 q_42 (by omega) rfl (Nat.le_of_ble_eq_true rfl) (Nat.zero_le _) (Nat.zero_le _) dX12_weightUnitPrice_44 rfl (fun r5 => ?_)
  refine g_if_eq 52 50 hX dX12_weightUnitPrice_47 (by decide) rfl (fun _ => ?_) (fun _ => ?_)
  · refine g_aload_n 53 0 hX dX12_weightUnitPrice_52 rfl rfl ?_
    refine g_iload_n 54 1 hX dX12_weightUnitPrice_53 rfl rfl ?_
    refine g_iload_n 55 2 hX dX12_weightUnitPrice_54 rfl rfl ?_
    refine g_callV_ip 58 hX (k_X12_unitPrice l g N r5.2 a0 x1 x2) lk_X12_unitPrice rfl (ci := 12) rfl (Nat.le_of_ble_eq_true rfl) q_2012 q_95 (by omega) rfl (Nat.le_of_ble_eq_true rfl) (Nat.zero_le _) (Nat.zero_le _) dX12_weightUnitPrice_55 rfl (fun r6 => ?_)
    exact g_iret hX hr rfl (Nat.le_refl 0) (Nat.le_refl 0) dX12_weightUnitPrice_58
  · refine g_iconst 51 hX 0 dX12_weightUnitPrice_50 rfl kc_i_0 ?_
    exact g_iret hX hr rfl (Nat.le_refl 0) (Nat.le_refl 0) dX12_weightUnitPrice_51
set_option maxRecDepth 100000 in
set_option maxHeartbeats 4000000 in
theorem k_X12_weightUnitPrice_38 {p : Program} {l : Launch} {e : Env} {s : State} {m : MethodId} {args : Array Value} {below : List Frame} {meth : Method} {c : Code} {g : kG} (hX : Cok (p, l, e, { frames := 2 * 8, cells := 0, slots := 0, locals := 60 * 8 }, s, m, args, below, meth, c, cX12_weightUnitPrice, 3, RX12, g, 8)) (hr : meth.sig.returnType = (some .int)) (N : Nat) : ∀ (M : kMem) (a0 : Nat) (x1 : Int32) (x2 : Int32) (y0 : Nat), GG (p, l, e, { frames := 2 * 8, cells := 0, slots := 0, locals := 60 * 8 }, s, m, args, below, meth, c, cX12_weightUnitPrice, 3, RX12, g, 8) (fun b => MQ below (kQ g ((fun r : Int32 × kMem => (some (.int r.1), r.2)) b)) args s 0 0 (kZ g.2.2.1)) 0 0 (F_X12_weightUnitPrice_38 N M a0 x1 x2 y0) 38 [(0, .ref a0), (1, .int x1), (2, .int x2)] [.ref y0] M := by
  intro M a0 x1 x2 y0
  unfold F_X12_weightUnitPrice_38
  refine g_iconst 39 hX 1 dX12_weightUnitPrice_38 rfl kc_i_1 ?_
  refine g_goto 43 hX dX12_weightUnitPrice_39 (by decide) ?_
  exact k_X12_weightUnitPrice_43 hX hr N M a0 x1 x2 y0 1
set_option maxRecDepth 100000 in
set_option maxHeartbeats 4000000 in
theorem k_X12_weightUnitPrice (l : Launch) (g : kG) (N : Nat) (M : kMem) (a0 : Nat) (x1 : Int32) (x2 : Int32) : kMet l g yX12_weightUnitPrice cX12_weightUnitPrice 3 (some .int) 8 0 0 [.ref a0, .int x1, .int x2] M (fun r : Int32 × kMem => (some (.int r.1), r.2)) (F_X12_weightUnitPrice N M a0 x1 x2) := by
  refine k_of (lv := [(0, .ref a0), (1, .int x1), (2, .int x2)]) RX12 (by decide) rfl rfl (Nat.le_of_ble_eq_true rfl) ?_
  intro p e s m args below meth c hX hr _
  unfold F_X12_weightUnitPrice
  refine g_aload_n 1 0 hX dX12_weightUnitPrice_0 rfl rfl ?_
  refine g_iconst 2 hX 0 dX12_weightUnitPrice_1 rfl kc_i_0 ?_
  refine p_X12_63 5 hX dX12_weightUnitPrice_2 rfl ?_
  refine g_klM (fun M1 hM1 => ?_)
  refine g_aload_n 6 0 hX dX12_weightUnitPrice_5 rfl rfl ?_
  refine g_iload_n 7 1 hX dX12_weightUnitPrice_6 rfl rfl ?_
  refine g_callV_i 10 hX (k_X12_noTrader l g N M1 a0 x1) lk_X12_noTrader rfl (ci := 12) rfl (Nat.le_of_ble_eq_true rfl) q_2094 q_111 (by omega) rfl (Nat.le_of_ble_eq_true rfl) (Nat.zero_le _) (Nat.zero_le _) dX12_weightUnitPrice_7 rfl (fun r2 => ?_)
  refine g_if_ne 50 13 hX dX12_weightUnitPrice_10 (by decide) rfl (fun _ => ?_) (fun _ => ?_)
  · refine g_iconst 51 hX 0 dX12_weightUnitPrice_50 rfl kc_i_0 ?_
    exact g_iret hX hr rfl (Nat.le_refl 0) (Nat.le_refl 0) dX12_weightUnitPrice_51
  · refine g_aload_n 14 0 hX dX12_weightUnitPrice_13 rfl rfl ?_
    refine g_iload_n 15 2 hX dX12_weightUnitPrice_14 rfl rfl ?_
    refine g_callV_i 18 hX (k_X12_noTrader l g N r2.2 a0 x2) lk_X12_noTrader rfl (ci := 12) rfl (Nat.le_of_ble_eq_true rfl) q_2094 q_111 (by omega) rfl (Nat.le_of_ble_eq_true rfl) (Nat.zero_le _) (Nat.zero_le _) dX12_weightUnitPrice_15 rfl (fun r3 => ?_)
    refine g_if_ne 50 21 hX dX12_weightUnitPrice_18 (by decide) rfl (fun _ => ?_) (fun _ => ?_)
    · refine g_iconst 51 hX 0 dX12_weightUnitPrice_50 rfl kc_i_0 ?_
      exact g_iret hX hr rfl (Nat.le_refl 0) (Nat.le_refl 0) dX12_weightUnitPrice_51
    · refine g_aload_n 22 0 hX dX12_weightUnitPrice_21 rfl rfl ?_
      refine g_aload_n 23 0 hX dX12_weightUnitPrice_22 rfl rfl ?_
      refine g_iload_n 24 1 hX dX12_weightUnitPrice_23 rfl rfl ?_
      refine g_callV_ip 27 hX (k_X12_isSeated l g N r3.2 a0 x1) lk_X12_isSeated rfl (ci := 12) rfl (Nat.le_of_ble_eq_true rfl) q_1857 q_62 (by omega) rfl (Nat.le_of_ble_eq_true rfl) (Nat.zero_le _) (Nat.zero_le _) dX12_weightUnitPrice_24 rfl (fun r4 => ?_)
      refine g_if_eq 38 30 hX dX12_weightUnitPrice_27 (by decide) rfl (fun _ => ?_) (fun _ => ?_)
      · exact k_X12_weightUnitPrice_38 hX hr N r3.2 a0 x1 x2 a0
      · refine g_aload_n 31 0 hX dX12_weightUnitPrice_30 rfl rfl ?_
        refine g_iload_n 32 2 hX dX12_weightUnitPrice_31 rfl rfl ?_
        refine g_callV_ip 35 hX (k_X12_isSeated l g N r3.2 a0 x2) lk_X12_isSeated rfl (ci := 12) rfl (Nat.le_of_ble_eq_true rfl) q_1857 q_62 (by omega) rfl (Nat.le_of_ble_eq_true rfl) (Nat.zero_le _) (Nat.zero_le _) dX12_weightUnitPrice_32 rfl (fun r7 => ?_)
        refine g_if_ne 42 38 hX dX12_weightUnitPrice_35 (by decide) rfl (fun _ => ?_) (fun _ => ?_)
        · refine g_iconst 43 hX 0 dX12_weightUnitPrice_42 rfl kc_i_0 ?_
          exact k_X12_weightUnitPrice_43 hX hr N r3.2 a0 x1 x2 a0 0
        · exact k_X12_weightUnitPrice_38 hX hr N r3.2 a0 x1 x2 a0
set_option maxRecDepth 100000 in
set_option maxHeartbeats 4000000 in
theorem k_X12_incomeOn (l : Launch) (g : kG) (N : Nat) (M : kMem) (a0 : Nat) (x1 : Int32) (x2 : Int32) (x3 : Int32) : kMet l g yX12_incomeOn cX12_incomeOn 4 (some .int) 6 0 0 [.ref a0, .int x1, .int x2, .int x3] M (fun r : Int32 => (some (.int r), M)) (F_X12_incomeOn N M a0 x1 x2 x3) := by
  refine k_of (lv := [(0, .ref a0), (1, .int x1), (2, .int x2), (3, .int x3)]) RX12 (by decide) rfl rfl (Nat.le_of_ble_eq_true rfl) ?_
  intro p e s m args below meth c hX hr _
  unfold F_X12_incomeOn
  refine g_aload_n 1 0 hX dX12_incomeOn_0 rfl rfl ?_
  refine r_X12_7 4 hX dX12_incomeOn_1 rfl ?_
  refine g_iconst 5 hX 0 dX12_incomeOn_4 rfl kc_i_0 ?_
  refine g_iald 6 hX dX12_incomeOn_5 rfl ?_
  refine g_iload_n 7 3 hX dX12_incomeOn_6 rfl rfl ?_
  refine g_aload_n 8 0 hX dX12_incomeOn_7 rfl rfl ?_
  refine g_iload_n 9 2 hX dX12_incomeOn_8 rfl rfl ?_
  refine g_aload_n 10 0 hX dX12_incomeOn_9 rfl rfl ?_
  refine g_iload_n 11 1 hX dX12_incomeOn_10 rfl rfl ?_
  refine g_iload_n 12 2 hX dX12_incomeOn_11 rfl rfl ?_
  refine g_iload_n 13 3 hX dX12_incomeOn_12 rfl rfl ?_
  refine g_callV_ip 16 hX (k_X12_torqueWith l g N M a0 x1 x2 x3) lk_X12_torqueWith rfl (ci := 12) rfl (Nat.le_of_ble_eq_true rfl) q_1972 q_85 (by omega) rfl (Nat.le_of_ble_eq_true rfl) (Nat.zero_le _) (Nat.zero_le _) dX12_incomeOn_13 rfl (fun r1 => ?_)
  refine g_callV_ip 19 hX (k_X12_tiltBy l g N M a0 x2 r1) lk_X12_tiltBy rfl (ci := 12) rfl (Nat.le_of_ble_eq_true rfl) q_1965 q_84 (by omega) rfl (Nat.le_of_ble_eq_true rfl) (Nat.zero_le _) (Nat.zero_le _) dX12_incomeOn_16 rfl (fun r2 => ?_)
  refine g_imul 20 hX dX12_incomeOn_19 rfl ?_
  refine g_isub 21 hX dX12_incomeOn_20 rfl ?_
  exact g_iret hX hr rfl (Nat.le_refl 0) (Nat.le_refl 0) dX12_incomeOn_21
set_option maxRecDepth 100000 in
set_option maxHeartbeats 4000000 in
theorem k_X12_bestSeat_66 {p : Program} {l : Launch} {e : Env} {s : State} {m : MethodId} {args : Array Value} {below : List Frame} {meth : Method} {c : Code} {g : kG} (hX : Cok (p, l, e, { frames := 2 * 8, cells := 0, slots := 0, locals := 60 * 8 }, s, m, args, below, meth, c, cX12_bestSeat, 6, RX12, g, 8)) (hr : meth.sig.returnType = (some .int)) (N : Nat) (k34 : kMem → Nat → Int32 → Int32 → Int32 → Int32 → Option (Int32 × kMem)) (h34 : ∀ (M : kMem) (a0 : Nat) (x1 : Int32) (x2 : Int32) (x3 : Int32) (x4 : Int32), GG (p, l, e, { frames := 2 * 8, cells := 0, slots := 0, locals := 60 * 8 }, s, m, args, below, meth, c, cX12_bestSeat, 6, RX12, g, 8) (fun b => MQ below (kQ g ((fun r : Int32 × kMem => (some (.int r.1), r.2)) b)) args s 0 0 (kZ g.2.2.1)) 0 0 (k34 M a0 x1 x2 x3 x4) 34 [(0, .ref a0), (1, .int x1), (2, .int x2), (3, .int x3), (4, .int x4)] [] M) : ∀ (M : kMem) (a0 : Nat) (x1 : Int32) (x2 : Int32) (x3 : Int32) (x4 : Int32) (y0 : Int32), GG (p, l, e, { frames := 2 * 8, cells := 0, slots := 0, locals := 60 * 8 }, s, m, args, below, meth, c, cX12_bestSeat, 6, RX12, g, 8) (fun b => MQ below (kQ g ((fun r : Int32 × kMem => (some (.int r.1), r.2)) b)) args s 0 0 (kZ g.2.2.1)) 0 0 (F_X12_bestSeat_66 N k34 M a0 x1 x2 x3 x4 y0) 66 [(0, .ref a0), (1, .int x1), (2, .int x2), (3, .int x3), (4, .int x4)] [.int y0] M := by
  intro M a0 x1 x2 x3 x4 y0
  unfold F_X12_bestSeat_66
  refine g_istore 68 5 [(5, .int y0), (0, .ref a0), (1, .int x1), (2, .int x2), (3, .int x3), (4, .int x4)] hX dX12_bestSeat_66 rfl (Nat.le_of_ble_eq_true rfl) rfl ?_
  refine g_iload 70 0 hX dX12_bestSeat_68 rfl rfl ?_
  refine g_if_eq 98 73 hX dX12_bestSeat_70 (by decide) rfl (fun _ => ?_) (fun _ => ?_)
  · refine g_kl (fun v7 hv7 => ?_)
    refine g_iinc 101 4 5 v7 [(4, .int v7), (5, .int y0), (0, .ref a0), (1, .int x1), (2, .int x2), (3, .int x3)] hX dX12_bestSeat_98 rfl rfl (by rw [hv7, kc_i_1]) (Nat.le_of_ble_eq_true rfl) rfl ?_
    refine g_goto 34 hX dX12_bestSeat_101 (by decide) ?_
    refine g_lv [2, 3, 4, 5, 0] rfl ?_
    exact h34 M a0 x1 x2 x3 v7
  · refine g_iload_n 74 4 hX dX12_bestSeat_73 rfl rfl ?_
    refine g_if_eq 95 77 hX dX12_bestSeat_74 (by decide) rfl (fun _ => ?_) (fun _ => ?_)
    · refine g_iload 97 5 hX dX12_bestSeat_95 rfl rfl ?_
      refine g_istore_n 98 3 [(3, .int x4), (5, .int y0), (0, .ref a0), (1, .int x1), (2, .int x2), (4, .int x4)] hX dX12_bestSeat_97 rfl rfl (Nat.le_of_ble_eq_true rfl) rfl ?_
      refine g_kl (fun v8 hv8 => ?_)
      refine g_iinc 101 4 5 v8 [(4, .int v8), (3, .int x4), (5, .int y0), (0, .ref a0), (1, .int x1), (2, .int x2)] hX dX12_bestSeat_98 rfl rfl (by rw [hv8, kc_i_1]) (Nat.le_of_ble_eq_true rfl) rfl ?_
      refine g_goto 34 hX dX12_bestSeat_101 (by decide) ?_
      refine g_lv [3, 4, 5, 1, 0] rfl ?_
      exact h34 M a0 x1 x2 x4 v8
    · refine g_aload_n 78 1 hX dX12_bestSeat_77 rfl rfl ?_
      refine g_iload_n 79 2 hX dX12_bestSeat_78 rfl rfl ?_
      refine g_iload_n 80 3 hX dX12_bestSeat_79 rfl rfl ?_
      refine g_iload 82 5 hX dX12_bestSeat_80 rfl rfl ?_
      refine g_callV_ip 85 hX (k_X12_incomeOn l g N M a0 x1 x2 x4) lk_X12_incomeOn rfl (ci := 12) rfl (Nat.le_of_ble_eq_true rfl) q_2299 q_120 (by omega) rfl (Nat.le_of_ble_eq_true rfl) (Nat.zero_le _) (Nat.zero_le _) dX12_bestSeat_82 rfl (fun r9 => ?_)
      refine g_aload_n 86 1 hX dX12_bestSeat_85 rfl rfl ?_
      refine g_iload_n 87 2 hX dX12_bestSeat_86 rfl rfl ?_
      refine g_iload_n 88 3 hX dX12_bestSeat_87 rfl rfl ?_
      refine g_iload_n 89 4 hX dX12_bestSeat_88 rfl rfl ?_
      refine g_callV_ip 92 hX (k_X12_incomeOn l g N M a0 x1 x2 x3) lk_X12_incomeOn rfl (ci := 12) rfl (Nat.le_of_ble_eq_true rfl) q_2299 q_120 (by omega) rfl (Nat.le_of_ble_eq_true rfl) (Nat.zero_le _) (Nat.zero_le _) dX12_bestSeat_89 rfl (fun r10 => ?_)
      refine g_icmp_le 98 95 hX dX12_bestSeat_92 (by decide) rfl (fun _ => ?_) (fun _ => ?_)
      · refine g_kl (fun v11 hv11 => ?_)
        refine g_iinc 101 4 5 v11 [(4, .int v11), (5, .int y0), (0, .ref a0), (1, .int x1), (2, .int x2), (3, .int x3)] hX dX12_bestSeat_98 rfl rfl (by rw [hv11, kc_i_1]) (Nat.le_of_ble_eq_true rfl) rfl ?_
        refine g_goto 34 hX dX12_bestSeat_101 (by decide) ?_
        refine g_lv [2, 3, 4, 5, 0] rfl ?_
        exact h34 M a0 x1 x2 x3 v11
      · refine g_iload 97 5 hX dX12_bestSeat_95 rfl rfl ?_
        refine g_istore_n 98 3 [(3, .int x4), (5, .int y0), (0, .ref a0), (1, .int x1), (2, .int x2), (4, .int x4)] hX dX12_bestSeat_97 rfl rfl (Nat.le_of_ble_eq_true rfl) rfl ?_
        refine g_kl (fun v12 hv12 => ?_)
        refine g_iinc 101 4 5 v12 [(4, .int v12), (3, .int x4), (5, .int y0), (0, .ref a0), (1, .int x1), (2, .int x2)] hX dX12_bestSeat_98 rfl rfl (by rw [hv12, kc_i_1]) (Nat.le_of_ble_eq_true rfl) rfl ?_
        refine g_goto 34 hX dX12_bestSeat_101 (by decide) ?_
        refine g_lv [3, 4, 5, 1, 0] rfl ?_
        exact h34 M a0 x1 x2 x4 v12
set_option maxRecDepth 100000 in
set_option maxHeartbeats 4000000 in
theorem k_X12_bestSeat_65 {p : Program} {l : Launch} {e : Env} {s : State} {m : MethodId} {args : Array Value} {below : List Frame} {meth : Method} {c : Code} {g : kG} (hX : Cok (p, l, e, { frames := 2 * 8, cells := 0, slots := 0, locals := 60 * 8 }, s, m, args, below, meth, c, cX12_bestSeat, 6, RX12, g, 8)) (hr : meth.sig.returnType = (some .int)) (N : Nat) (k34 : kMem → Nat → Int32 → Int32 → Int32 → Int32 → Option (Int32 × kMem)) (h34 : ∀ (M : kMem) (a0 : Nat) (x1 : Int32) (x2 : Int32) (x3 : Int32) (x4 : Int32), GG (p, l, e, { frames := 2 * 8, cells := 0, slots := 0, locals := 60 * 8 }, s, m, args, below, meth, c, cX12_bestSeat, 6, RX12, g, 8) (fun b => MQ below (kQ g ((fun r : Int32 × kMem => (some (.int r.1), r.2)) b)) args s 0 0 (kZ g.2.2.1)) 0 0 (k34 M a0 x1 x2 x3 x4) 34 [(0, .ref a0), (1, .int x1), (2, .int x2), (3, .int x3), (4, .int x4)] [] M) : ∀ (M : kMem) (a0 : Nat) (x1 : Int32) (x2 : Int32) (x3 : Int32) (x4 : Int32), GG (p, l, e, { frames := 2 * 8, cells := 0, slots := 0, locals := 60 * 8 }, s, m, args, below, meth, c, cX12_bestSeat, 6, RX12, g, 8) (fun b => MQ below (kQ g ((fun r : Int32 × kMem => (some (.int r.1), r.2)) b)) args s 0 0 (kZ g.2.2.1)) 0 0 (F_X12_bestSeat_65 N k34 M a0 x1 x2 x3 x4) 65 [(0, .ref a0), (1, .int x1), (2, .int x2), (3, .int x3), (4, .int x4)] [] M := by
  intro M a0 x1 x2 x3 x4
  unfold F_X12_bestSeat_65
  refine g_iconst 66 hX 0 dX12_bestSeat_65 rfl kc_i_0 ?_
  exact k_X12_bestSeat_66 hX hr N k34 h34 M a0 x1 x2 x3 x4 0
set_option maxRecDepth 100000 in
set_option maxHeartbeats 4000000 in
theorem k_X12_bestSeat_34 {p : Program} {l : Launch} {e : Env} {s : State} {m : MethodId} {args : Array Value} {below : List Frame} {meth : Method} {c : Code} {g : kG} (hX : Cok (p, l, e, { frames := 2 * 8, cells := 0, slots := 0, locals := 60 * 8 }, s, m, args, below, meth, c, cX12_bestSeat, 6, RX12, g, 8)) (hr : meth.sig.returnType = (some .int)) (N : Nat) : ∀ (n : Nat) (M : kMem) (a0 : Nat) (x1 : Int32) (x2 : Int32) (x3 : Int32) (x4 : Int32), GG (p, l, e, { frames := 2 * 8, cells := 0, slots := 0, locals := 60 * 8 }, s, m, args, below, meth, c, cX12_bestSeat, 6, RX12, g, 8) (fun b => MQ below (kQ g ((fun r : Int32 × kMem => (some (.int r.1), r.2)) b)) args s 0 0 (kZ g.2.2.1)) 0 0 (F_X12_bestSeat_34 N n M a0 x1 x2 x3 x4) 34 [(0, .ref a0), (1, .int x1), (2, .int x2), (3, .int x3), (4, .int x4)] [] M := by
  intro n
  induction n with
  | zero => intro _ _ _ _ _ _; exact g_none
  | succ n ih =>
    intro M a0 x1 x2 x3 x4
    unfold F_X12_bestSeat_34
    refine g_iload 36 4 hX dX12_bestSeat_34 rfl rfl ?_
    refine g_aload_n 37 0 hX dX12_bestSeat_36 rfl rfl ?_
    refine g_iload_n 38 2 hX dX12_bestSeat_37 rfl rfl ?_
    refine g_iconst 39 hX 0 dX12_bestSeat_38 rfl kc_i_0 ?_
    refine g_callV_ip 42 hX (k_X12_ofBoard l g N M a0 x2 0) lk_X12_ofBoard rfl (ci := 12) rfl (Nat.le_of_ble_eq_true rfl) q_1867 q_64 (by omega) rfl (Nat.le_of_ble_eq_true rfl) (Nat.zero_le _) (Nat.zero_le _) dX12_bestSeat_39 rfl (fun r6 => ?_)
    refine g_icmp_gt 104 45 hX dX12_bestSeat_42 (by decide) rfl (fun _ => ?_) (fun _ => ?_)
    · refine g_iload_n 105 3 hX dX12_bestSeat_104 rfl rfl ?_
      exact g_iret hX hr rfl (Nat.le_refl 0) (Nat.le_refl 0) dX12_bestSeat_105
    · refine g_iload 47 4 hX dX12_bestSeat_45 rfl rfl ?_
      refine g_if_eq 65 50 hX dX12_bestSeat_47 (by decide) rfl (fun _ => ?_) (fun _ => ?_)
      · exact k_X12_bestSeat_65 hX hr N (fun M a0 x1 x2 x3 x4 => F_X12_bestSeat_34 N n M a0 x1 x2 x3 x4) ih M a0 x1 x2 x3 x4
      · refine g_aload_n 51 0 hX dX12_bestSeat_50 rfl rfl ?_
        refine g_iload_n 52 1 hX dX12_bestSeat_51 rfl rfl ?_
        refine g_iload_n 53 2 hX dX12_bestSeat_52 rfl rfl ?_
        refine g_iload 55 4 hX dX12_bestSeat_53 rfl rfl ?_
        refine g_callV_ip 58 hX (k_X12_againstSeat l g N M a0 x1 x2 x4) lk_X12_againstSeat rfl (ci := 12) rfl (Nat.le_of_ble_eq_true rfl) q_1946 q_80 (by omega) rfl (Nat.le_of_ble_eq_true rfl) (Nat.zero_le _) (Nat.zero_le _) dX12_bestSeat_55 rfl (fun r13 => ?_)
        refine g_if_ne 65 61 hX dX12_bestSeat_58 (by decide) rfl (fun _ => ?_) (fun _ => ?_)
        · exact k_X12_bestSeat_65 hX hr N (fun M a0 x1 x2 x3 x4 => F_X12_bestSeat_34 N n M a0 x1 x2 x3 x4) ih M a0 x1 x2 x3 x4
        · refine g_iconst 62 hX 1 dX12_bestSeat_61 rfl kc_i_1 ?_
          refine g_goto 66 hX dX12_bestSeat_62 (by decide) ?_
          exact k_X12_bestSeat_66 hX hr N (fun M a0 x1 x2 x3 x4 => F_X12_bestSeat_34 N n M a0 x1 x2 x3 x4) ih M a0 x1 x2 x3 x4 1
set_option maxRecDepth 100000 in
set_option maxHeartbeats 4000000 in
theorem k_X12_bestSeat (l : Launch) (g : kG) (N : Nat) (M : kMem) (a0 : Nat) (x1 : Int32) (x2 : Int32) : kMet l g yX12_bestSeat cX12_bestSeat 6 (some .int) 8 0 0 [.ref a0, .int x1, .int x2] M (fun r : Int32 × kMem => (some (.int r.1), r.2)) (F_X12_bestSeat N M a0 x1 x2) := by
  refine k_of (lv := [(0, .ref a0), (1, .int x1), (2, .int x2)]) RX12 (by decide) rfl rfl (Nat.le_of_ble_eq_true rfl) ?_
  intro p e s m args below meth c hX hr _
  unfold F_X12_bestSeat
  refine g_aload_n 1 0 hX dX12_bestSeat_0 rfl rfl ?_
  refine g_iconst 2 hX 0 dX12_bestSeat_1 rfl kc_i_0 ?_
  refine p_X12_63 5 hX dX12_bestSeat_2 rfl ?_
  refine g_klM (fun M1 hM1 => ?_)
  refine g_aload_n 6 0 hX dX12_bestSeat_5 rfl rfl ?_
  refine g_iload_n 7 1 hX dX12_bestSeat_6 rfl rfl ?_
  refine g_callV_i 10 hX (k_X12_noTrader l g N M1 a0 x1) lk_X12_noTrader rfl (ci := 12) rfl (Nat.le_of_ble_eq_true rfl) q_2094 q_111 (by omega) rfl (Nat.le_of_ble_eq_true rfl) (Nat.zero_le _) (Nat.zero_le _) dX12_bestSeat_7 rfl (fun r2 => ?_)
  refine g_if_ne 21 13 hX dX12_bestSeat_10 (by decide) rfl (fun _ => ?_) (fun _ => ?_)
  · refine g_iconst 22 hX 0 dX12_bestSeat_21 rfl kc_i_0 ?_
    exact g_iret hX hr rfl (Nat.le_refl 0) (Nat.le_refl 0) dX12_bestSeat_22
  · refine g_aload_n 14 0 hX dX12_bestSeat_13 rfl rfl ?_
    refine g_iload_n 15 2 hX dX12_bestSeat_14 rfl rfl ?_
    refine g_callV_i 18 hX (k_X12_noBoard l g N r2.2 a0 x2) lk_X12_noBoard rfl (ci := 12) rfl (Nat.le_of_ble_eq_true rfl) q_2102 q_113 (by omega) rfl (Nat.le_of_ble_eq_true rfl) (Nat.zero_le _) (Nat.zero_le _) dX12_bestSeat_15 rfl (fun r3 => ?_)
    refine g_if_eq 23 21 hX dX12_bestSeat_18 (by decide) rfl (fun _ => ?_) (fun _ => ?_)
    · refine g_iconst 24 hX 0 dX12_bestSeat_23 rfl kc_i_0 ?_
      refine g_istore_n 25 3 [(3, .int 0), (0, .ref a0), (1, .int x1), (2, .int x2)] hX dX12_bestSeat_24 rfl rfl (Nat.le_of_ble_eq_true rfl) rfl ?_
      refine g_aload_n 26 1 hX dX12_bestSeat_25 rfl rfl ?_
      refine g_iload_n 27 3 hX dX12_bestSeat_26 rfl rfl ?_
      refine g_iconst 28 hX 0 dX12_bestSeat_27 rfl kc_i_0 ?_
      refine g_callV_ip 31 hX (k_X12_ofBoard l g N r3.2 a0 x2 0) lk_X12_ofBoard rfl (ci := 12) rfl (Nat.le_of_ble_eq_true rfl) q_1867 q_64 (by omega) rfl (Nat.le_of_ble_eq_true rfl) (Nat.zero_le _) (Nat.zero_le _) dX12_bestSeat_28 rfl (fun r4 => ?_)
      refine g_ineg 32 hX dX12_bestSeat_31 rfl ?_
      refine g_klI (fun v5 hv5 => ?_)
      refine g_istore 34 4 [(4, .int v5), (3, .int 0), (0, .ref a0), (1, .int x1), (2, .int x2)] hX dX12_bestSeat_32 rfl (Nat.le_of_ble_eq_true rfl) rfl ?_
      refine g_lv [2, 3, 4, 1, 0] rfl ?_
      exact k_X12_bestSeat_34 hX hr N N r3.2 a0 x1 x2 0 v5
    · refine g_iconst 22 hX 0 dX12_bestSeat_21 rfl kc_i_0 ?_
      exact g_iret hX hr rfl (Nat.le_refl 0) (Nat.le_refl 0) dX12_bestSeat_22
set_option maxRecDepth 100000 in
set_option maxHeartbeats 4000000 in
theorem k_X12_seatsSold (l : Launch) (g : kG) (N : Nat) (M : kMem) (a0 : Nat) : kMet l g yX12_seatsSold cX12_seatsSold 1 (some .int) 1 0 0 [.ref a0] M (fun r : Int32 × kMem => (some (.int r.1), r.2)) (F_X12_seatsSold N M a0) := by
  refine k_of (lv := [(0, .ref a0)]) RX12 (by decide) rfl rfl (Nat.le_of_ble_eq_true rfl) ?_
  intro p e s m args below meth c hX hr _
  unfold F_X12_seatsSold
  refine g_aload_n 1 0 hX dX12_seatsSold_0 rfl rfl ?_
  refine g_iconst 2 hX 0 dX12_seatsSold_1 rfl kc_i_0 ?_
  refine p_X12_63 5 hX dX12_seatsSold_2 rfl ?_
  refine g_klM (fun M1 hM1 => ?_)
  refine g_aload_n 6 0 hX dX12_seatsSold_5 rfl rfl ?_
  refine r_X12_7 9 hX dX12_seatsSold_6 rfl ?_
  refine g_bipush 11 hX 10 dX12_seatsSold_9 rfl kc_b_10 ?_
  refine g_iald 12 hX dX12_seatsSold_11 rfl ?_
  exact g_iret hX hr rfl (Nat.le_refl 0) (Nat.le_refl 0) dX12_seatsSold_12
set_option maxRecDepth 100000 in
set_option maxHeartbeats 4000000 in
theorem k_X12_weightSold (l : Launch) (g : kG) (N : Nat) (M : kMem) (a0 : Nat) : kMet l g yX12_weightSold cX12_weightSold 1 (some .int) 1 0 0 [.ref a0] M (fun r : Int32 × kMem => (some (.int r.1), r.2)) (F_X12_weightSold N M a0) := by
  refine k_of (lv := [(0, .ref a0)]) RX12 (by decide) rfl rfl (Nat.le_of_ble_eq_true rfl) ?_
  intro p e s m args below meth c hX hr _
  unfold F_X12_weightSold
  refine g_aload_n 1 0 hX dX12_weightSold_0 rfl rfl ?_
  refine g_iconst 2 hX 0 dX12_weightSold_1 rfl kc_i_0 ?_
  refine p_X12_63 5 hX dX12_weightSold_2 rfl ?_
  refine g_klM (fun M1 hM1 => ?_)
  refine g_aload_n 6 0 hX dX12_weightSold_5 rfl rfl ?_
  refine r_X12_7 9 hX dX12_weightSold_6 rfl ?_
  refine g_bipush 11 hX 11 dX12_weightSold_9 rfl kc_b_11 ?_
  refine g_iald 12 hX dX12_weightSold_11 rfl ?_
  exact g_iret hX hr rfl (Nat.le_refl 0) (Nat.le_refl 0) dX12_weightSold_12
set_option maxRecDepth 100000 in
set_option maxHeartbeats 4000000 in
theorem k_X12_fallCount (l : Launch) (g : kG) (N : Nat) (M : kMem) (a0 : Nat) : kMet l g yX12_fallCount cX12_fallCount 1 (some .int) 1 0 0 [.ref a0] M (fun r : Int32 × kMem => (some (.int r.1), r.2)) (F_X12_fallCount N M a0) := by
  refine k_of (lv := [(0, .ref a0)]) RX12 (by decide) rfl rfl (Nat.le_of_ble_eq_true rfl) ?_
  intro p e s m args below meth c hX hr _
  unfold F_X12_fallCount
  refine g_aload_n 1 0 hX dX12_fallCount_0 rfl rfl ?_
  refine g_iconst 2 hX 0 dX12_fallCount_1 rfl kc_i_0 ?_
  refine p_X12_63 5 hX dX12_fallCount_2 rfl ?_
  refine g_klM (fun M1 hM1 => ?_)
  refine g_aload_n 6 0 hX dX12_fallCount_5 rfl rfl ?_
  refine r_X12_7 9 hX dX12_fallCount_6 rfl ?_
  refine g_bipush 11 hX 12 dX12_fallCount_9 rfl kc_b_12 ?_
  refine g_iald 12 hX dX12_fallCount_11 rfl ?_
  exact g_iret hX hr rfl (Nat.le_refl 0) (Nat.le_refl 0) dX12_fallCount_12
set_option maxRecDepth 100000 in
set_option maxHeartbeats 4000000 in
theorem k_X12_averagePurse_11 {p : Program} {l : Launch} {e : Env} {s : State} {m : MethodId} {args : Array Value} {below : List Frame} {meth : Method} {c : Code} {g : kG} (hX : Cok (p, l, e, { frames := 2 * 3, cells := 0, slots := 0, locals := 60 * 3 }, s, m, args, below, meth, c, cX12_averagePurse, 4, RX12, g, 3)) (hr : meth.sig.returnType = (some .double)) (N : Nat) : ∀ (n : Nat) (M : kMem) (a0 : Nat) (x1 : Int32) (x2 : Int32) (x3 : Int32), GG (p, l, e, { frames := 2 * 3, cells := 0, slots := 0, locals := 60 * 3 }, s, m, args, below, meth, c, cX12_averagePurse, 4, RX12, g, 3) (fun b => MQ below (kQ g ((fun r : UInt64 × kMem => (some (.double r.1), r.2)) b)) args s 0 0 (kZ g.2.2.1)) 0 0 (F_X12_averagePurse_11 N n M a0 x1 x2 x3) 11 [(0, .ref a0), (1, .int x1), (2, .int x2), (3, .int x3)] [] M := by
  intro n
  induction n with
  | zero => intro _ _ _ _ _; exact g_none
  | succ n ih =>
    intro M a0 x1 x2 x3
    unfold F_X12_averagePurse_11
    refine g_iload_n 12 3 hX dX12_averagePurse_11 rfl rfl ?_
    refine g_aload_n 13 0 hX dX12_averagePurse_12 rfl rfl ?_
    refine r_X12_7 16 hX dX12_averagePurse_13 rfl ?_
    refine g_bipush 18 hX 8 dX12_averagePurse_16 rfl kc_b_8 ?_
    refine g_iald 19 hX dX12_averagePurse_18 rfl ?_
    refine g_icmp_ge 53 22 hX dX12_averagePurse_19 (by decide) rfl (fun _ => ?_) (fun _ => ?_)
    · refine g_iload_n 54 1 hX dX12_averagePurse_53 rfl rfl ?_
      refine g_if_ne 61 57 hX dX12_averagePurse_54 (by decide) rfl (fun _ => ?_) (fun _ => ?_)
      · refine g_iload_n 62 2 hX dX12_averagePurse_61 rfl rfl ?_
        refine g_i2d 63 hX dX12_averagePurse_62 rfl ?_
        refine g_iload_n 64 1 hX dX12_averagePurse_63 rfl rfl ?_
        refine g_i2d 65 hX dX12_averagePurse_64 rfl ?_
        refine g_ddiv 66 hX dX12_averagePurse_65 rfl ?_
        exact g_dret hX hr rfl (Nat.le_refl 0) (Nat.le_refl 0) dX12_averagePurse_66
      · refine g_dconst0 58 hX dX12_averagePurse_57 rfl ?_
        refine g_goto 66 hX dX12_averagePurse_58 (by decide) ?_
        exact g_dret hX hr rfl (Nat.le_refl 0) (Nat.le_refl 0) dX12_averagePurse_66
    · refine g_iload_n 23 1 hX dX12_averagePurse_22 rfl rfl ?_
      refine g_aload_n 24 0 hX dX12_averagePurse_23 rfl rfl ?_
      refine g_iload_n 25 3 hX dX12_averagePurse_24 rfl rfl ?_
      refine g_iconst 26 hX 4 dX12_averagePurse_25 rfl kc_i_4 ?_
      refine g_callV_ip 29 hX (k_X12_has l g N M a0 x3 4) lk_X12_has rfl (ci := 12) rfl (Nat.le_of_ble_eq_true rfl) q_1635 q_40 (by omega) rfl (Nat.le_of_ble_eq_true rfl) (Nat.zero_le _) (Nat.zero_le _) dX12_averagePurse_26 rfl (fun r2 => ?_)
      refine g_iadd 30 hX dX12_averagePurse_29 rfl ?_
      refine g_klI (fun v3 hv3 => ?_)
      refine g_istore_n 31 1 [(1, .int v3), (0, .ref a0), (2, .int x2), (3, .int x3)] hX dX12_averagePurse_30 rfl rfl (Nat.le_of_ble_eq_true rfl) rfl ?_
      refine g_iload_n 32 2 hX dX12_averagePurse_31 rfl rfl ?_
      refine g_aload_n 33 1 hX dX12_averagePurse_32 rfl rfl ?_
      refine g_iload_n 34 3 hX dX12_averagePurse_33 rfl rfl ?_
      refine g_iconst 35 hX 4 dX12_averagePurse_34 rfl kc_i_4 ?_
      refine g_callV_ip 38 hX (k_X12_has l g N M a0 x3 4) lk_X12_has rfl (ci := 12) rfl (Nat.le_of_ble_eq_true rfl) q_1635 q_40 (by omega) rfl (Nat.le_of_ble_eq_true rfl) (Nat.zero_le _) (Nat.zero_le _) dX12_averagePurse_35 rfl (fun r4 => ?_)
      refine g_aload_n 39 1 hX dX12_averagePurse_38 rfl rfl ?_
      refine g_iload_n 40 3 hX dX12_averagePurse_39 rfl rfl ?_
      refine g_iconst 41 hX 2 dX12_averagePurse_40 rfl kc_i_2 ?_
      refine g_callV_ip 44 hX (k_X12_has l g N M a0 x3 2) lk_X12_has rfl (ci := 12) rfl (Nat.le_of_ble_eq_true rfl) q_1635 q_40 (by omega) rfl (Nat.le_of_ble_eq_true rfl) (Nat.zero_le _) (Nat.zero_le _) dX12_averagePurse_41 rfl (fun r5 => ?_)
      refine g_imul 45 hX dX12_averagePurse_44 rfl ?_
      refine g_iadd 46 hX dX12_averagePurse_45 rfl ?_
      refine g_klI (fun v6 hv6 => ?_)
      refine g_istore_n 47 2 [(2, .int v6), (1, .int v3), (0, .ref a0), (3, .int x3)] hX dX12_averagePurse_46 rfl rfl (Nat.le_of_ble_eq_true rfl) rfl ?_
      refine g_kl (fun v7 hv7 => ?_)
      refine g_iinc 50 3 3 v7 [(3, .int v7), (2, .int v6), (1, .int v3), (0, .ref a0)] hX dX12_averagePurse_47 rfl rfl (by rw [hv7, kc_i_1]) (Nat.le_of_ble_eq_true rfl) rfl ?_
      refine g_goto 11 hX dX12_averagePurse_50 (by decide) ?_
      refine g_lv [3, 2, 1, 0] rfl ?_
      exact ih M a0 v3 v6 v7
set_option maxRecDepth 100000 in
set_option maxHeartbeats 4000000 in
theorem k_X12_averagePurse (l : Launch) (g : kG) (N : Nat) (M : kMem) (a0 : Nat) : kMet l g yX12_averagePurse cX12_averagePurse 4 (some .double) 3 0 0 [.ref a0] M (fun r : UInt64 × kMem => (some (.double r.1), r.2)) (F_X12_averagePurse N M a0) := by
  refine k_of (lv := [(0, .ref a0)]) RX12 (by decide) rfl rfl (Nat.le_of_ble_eq_true rfl) ?_
  intro p e s m args below meth c hX hr _
  unfold F_X12_averagePurse
  refine g_aload_n 1 0 hX dX12_averagePurse_0 rfl rfl ?_
  refine g_iconst 2 hX 0 dX12_averagePurse_1 rfl kc_i_0 ?_
  refine p_X12_63 5 hX dX12_averagePurse_2 rfl ?_
  refine g_klM (fun M1 hM1 => ?_)
  refine g_iconst 6 hX 0 dX12_averagePurse_5 rfl kc_i_0 ?_
  refine g_istore_n 7 1 [(1, .int 0), (0, .ref a0)] hX dX12_averagePurse_6 rfl rfl (Nat.le_of_ble_eq_true rfl) rfl ?_
  refine g_iconst 8 hX 0 dX12_averagePurse_7 rfl kc_i_0 ?_
  refine g_istore_n 9 2 [(2, .int 0), (1, .int 0), (0, .ref a0)] hX dX12_averagePurse_8 rfl rfl (Nat.le_of_ble_eq_true rfl) rfl ?_
  refine g_iconst 10 hX 0 dX12_averagePurse_9 rfl kc_i_0 ?_
  refine g_istore_n 11 3 [(3, .int 0), (2, .int 0), (1, .int 0), (0, .ref a0)] hX dX12_averagePurse_10 rfl rfl (Nat.le_of_ble_eq_true rfl) rfl ?_
  refine g_lv [3, 2, 1, 0] rfl ?_
  exact k_X12_averagePurse_11 hX hr N N M1 a0 0 0 0
set_option maxRecDepth 100000 in
set_option maxHeartbeats 4000000 in
theorem k_X12_occupancy_41 {p : Program} {l : Launch} {e : Env} {s : State} {m : MethodId} {args : Array Value} {below : List Frame} {meth : Method} {c : Code} {g : kG} (hX : Cok (p, l, e, { frames := 2 * 4, cells := 0, slots := 0, locals := 60 * 4 }, s, m, args, below, meth, c, cX12_occupancy, 4, RX12, g, 4)) (hr : meth.sig.returnType = (some .float)) (N : Nat) : ∀ (n : Nat) (M : kMem) (a0 : Nat) (x1 : Int32) (x2 : Int32) (x3 : Int32), GG (p, l, e, { frames := 2 * 4, cells := 0, slots := 0, locals := 60 * 4 }, s, m, args, below, meth, c, cX12_occupancy, 4, RX12, g, 4) (fun b => MQ below (kQ g ((fun r : UInt32 × kMem => (some (.float r.1), r.2)) b)) args s 0 0 (kZ g.2.2.1)) 0 0 (F_X12_occupancy_41 N n M a0 x1 x2 x3) 41 [(0, .ref a0), (1, .int x1), (2, .int x2), (3, .int x3)] [] M := by
  intro n
  induction n with
  | zero => intro _ _ _ _ _; exact g_none
  | succ n ih =>
    intro M a0 x1 x2 x3
    unfold F_X12_occupancy_41
    refine g_iload_n 42 3 hX dX12_occupancy_41 rfl rfl ?_
    refine g_aload_n 43 0 hX dX12_occupancy_42 rfl rfl ?_
    refine r_X12_7 46 hX dX12_occupancy_43 rfl ?_
    refine g_bipush 48 hX 8 dX12_occupancy_46 rfl kc_b_8 ?_
    refine g_iald 49 hX dX12_occupancy_48 rfl ?_
    refine g_icmp_ge 69 52 hX dX12_occupancy_49 (by decide) rfl (fun _ => ?_) (fun _ => ?_)
    · refine g_iload_n 70 1 hX dX12_occupancy_69 rfl rfl ?_
      refine g_if_ne 77 73 hX dX12_occupancy_70 (by decide) rfl (fun _ => ?_) (fun _ => ?_)
      · refine g_iload_n 78 2 hX dX12_occupancy_77 rfl rfl ?_
        refine g_i2f 79 hX dX12_occupancy_78 rfl ?_
        refine g_iload_n 80 1 hX dX12_occupancy_79 rfl rfl ?_
        refine g_i2f 81 hX dX12_occupancy_80 rfl ?_
        refine g_fdiv 82 hX dX12_occupancy_81 rfl ?_
        exact g_fret hX hr rfl (Nat.le_refl 0) (Nat.le_refl 0) dX12_occupancy_82
      · refine g_fconst0 74 hX dX12_occupancy_73 rfl ?_
        refine g_goto 82 hX dX12_occupancy_74 (by decide) ?_
        exact g_fret hX hr rfl (Nat.le_refl 0) (Nat.le_refl 0) dX12_occupancy_82
    · refine g_iload_n 53 2 hX dX12_occupancy_52 rfl rfl ?_
      refine g_aload_n 54 0 hX dX12_occupancy_53 rfl rfl ?_
      refine g_iload_n 55 3 hX dX12_occupancy_54 rfl rfl ?_
      refine g_callV_ip 58 hX (k_X12_isSeated l g N M a0 x3) lk_X12_isSeated rfl (ci := 12) rfl (Nat.le_of_ble_eq_true rfl) q_1857 q_62 (by omega) rfl (Nat.le_of_ble_eq_true rfl) (Nat.zero_le _) (Nat.zero_le _) dX12_occupancy_55 rfl (fun r2 => ?_)
      refine g_callS_ip 61 hX (k_X12_flag l g N M r2) lk_X12_flag q_1935 (by omega) rfl (Nat.le_of_ble_eq_true rfl) (Nat.zero_le _) (Nat.zero_le _) dX12_occupancy_58 rfl (fun r3 => ?_)
      refine g_iadd 62 hX dX12_occupancy_61 rfl ?_
      refine g_klI (fun v4 hv4 => ?_)
      refine g_istore_n 63 2 [(2, .int v4), (0, .ref a0), (1, .int x1), (3, .int x3)] hX dX12_occupancy_62 rfl rfl (Nat.le_of_ble_eq_true rfl) rfl ?_
      refine g_kl (fun v5 hv5 => ?_)
      refine g_iinc 66 3 3 v5 [(3, .int v5), (2, .int v4), (0, .ref a0), (1, .int x1)] hX dX12_occupancy_63 rfl rfl (by rw [hv5, kc_i_1]) (Nat.le_of_ble_eq_true rfl) rfl ?_
      refine g_goto 41 hX dX12_occupancy_66 (by decide) ?_
      refine g_lv [2, 3, 1, 0] rfl ?_
      exact ih M a0 x1 v4 v5
set_option maxRecDepth 100000 in
set_option maxHeartbeats 4000000 in
theorem k_X12_occupancy_11 {p : Program} {l : Launch} {e : Env} {s : State} {m : MethodId} {args : Array Value} {below : List Frame} {meth : Method} {c : Code} {g : kG} (hX : Cok (p, l, e, { frames := 2 * 4, cells := 0, slots := 0, locals := 60 * 4 }, s, m, args, below, meth, c, cX12_occupancy, 4, RX12, g, 4)) (hr : meth.sig.returnType = (some .float)) (N : Nat) : ∀ (n : Nat) (M : kMem) (a0 : Nat) (x1 : Int32) (x2 : Int32) (x3 : Int32), GG (p, l, e, { frames := 2 * 4, cells := 0, slots := 0, locals := 60 * 4 }, s, m, args, below, meth, c, cX12_occupancy, 4, RX12, g, 4) (fun b => MQ below (kQ g ((fun r : UInt32 × kMem => (some (.float r.1), r.2)) b)) args s 0 0 (kZ g.2.2.1)) 0 0 (F_X12_occupancy_11 N n M a0 x1 x2 x3) 11 [(0, .ref a0), (1, .int x1), (2, .int x2), (3, .int x3)] [] M := by
  intro n
  induction n with
  | zero => intro _ _ _ _ _; exact g_none
  | succ n ih =>
    intro M a0 x1 x2 x3
    unfold F_X12_occupancy_11
    refine g_iload_n 12 3 hX dX12_occupancy_11 rfl rfl ?_
    refine g_aload_n 13 0 hX dX12_occupancy_12 rfl rfl ?_
    refine r_X12_7 16 hX dX12_occupancy_13 rfl ?_
    refine g_bipush 18 hX 7 dX12_occupancy_16 rfl kc_b_7 ?_
    refine g_iald 19 hX dX12_occupancy_18 rfl ?_
    refine g_icmp_ge 39 22 hX dX12_occupancy_19 (by decide) rfl (fun _ => ?_) (fun _ => ?_)
    · refine g_iconst 40 hX 0 dX12_occupancy_39 rfl kc_i_0 ?_
      refine g_istore_n 41 3 [(3, .int 0), (0, .ref a0), (1, .int x1), (2, .int x2)] hX dX12_occupancy_40 rfl rfl (Nat.le_of_ble_eq_true rfl) rfl ?_
      refine g_lv [1, 2, 3, 0] rfl ?_
      exact k_X12_occupancy_41 hX hr N N M a0 x1 x2 0
    · refine g_iload_n 23 1 hX dX12_occupancy_22 rfl rfl ?_
      refine g_iconst 24 hX 2 dX12_occupancy_23 rfl kc_i_2 ?_
      refine g_aload_n 25 0 hX dX12_occupancy_24 rfl rfl ?_
      refine g_iload_n 26 3 hX dX12_occupancy_25 rfl rfl ?_
      refine g_iconst 27 hX 0 dX12_occupancy_26 rfl kc_i_0 ?_
      refine g_callV_ip 30 hX (k_X12_ofBoard l g N M a0 x3 0) lk_X12_ofBoard rfl (ci := 12) rfl (Nat.le_of_ble_eq_true rfl) q_1867 q_64 (by omega) rfl (Nat.le_of_ble_eq_true rfl) (Nat.zero_le _) (Nat.zero_le _) dX12_occupancy_27 rfl (fun r6 => ?_)
      refine g_imul 31 hX dX12_occupancy_30 rfl ?_
      refine g_iadd 32 hX dX12_occupancy_31 rfl ?_
      refine g_klI (fun v7 hv7 => ?_)
      refine g_istore_n 33 1 [(1, .int v7), (0, .ref a0), (2, .int x2), (3, .int x3)] hX dX12_occupancy_32 rfl rfl (Nat.le_of_ble_eq_true rfl) rfl ?_
      refine g_kl (fun v8 hv8 => ?_)
      refine g_iinc 36 3 3 v8 [(3, .int v8), (1, .int v7), (0, .ref a0), (2, .int x2)] hX dX12_occupancy_33 rfl rfl (by rw [hv8, kc_i_1]) (Nat.le_of_ble_eq_true rfl) rfl ?_
      refine g_goto 11 hX dX12_occupancy_36 (by decide) ?_
      refine g_lv [2, 1, 3, 0] rfl ?_
      exact ih M a0 v7 x2 v8
set_option maxRecDepth 100000 in
set_option maxHeartbeats 4000000 in
theorem k_X12_occupancy (l : Launch) (g : kG) (N : Nat) (M : kMem) (a0 : Nat) : kMet l g yX12_occupancy cX12_occupancy 4 (some .float) 4 0 0 [.ref a0] M (fun r : UInt32 × kMem => (some (.float r.1), r.2)) (F_X12_occupancy N M a0) := by
  refine k_of (lv := [(0, .ref a0)]) RX12 (by decide) rfl rfl (Nat.le_of_ble_eq_true rfl) ?_
  intro p e s m args below meth c hX hr _
  unfold F_X12_occupancy
  refine g_aload_n 1 0 hX dX12_occupancy_0 rfl rfl ?_
  refine g_iconst 2 hX 0 dX12_occupancy_1 rfl kc_i_0 ?_
  refine p_X12_63 5 hX dX12_occupancy_2 rfl ?_
  refine g_klM (fun M1 hM1 => ?_)
  refine g_iconst 6 hX 0 dX12_occupancy_5 rfl kc_i_0 ?_
  refine g_istore_n 7 1 [(1, .int 0), (0, .ref a0)] hX dX12_occupancy_6 rfl rfl (Nat.le_of_ble_eq_true rfl) rfl ?_
  refine g_iconst 8 hX 0 dX12_occupancy_7 rfl kc_i_0 ?_
  refine g_istore_n 9 2 [(2, .int 0), (1, .int 0), (0, .ref a0)] hX dX12_occupancy_8 rfl rfl (Nat.le_of_ble_eq_true rfl) rfl ?_
  refine g_iconst 10 hX 0 dX12_occupancy_9 rfl kc_i_0 ?_
  refine g_istore_n 11 3 [(3, .int 0), (2, .int 0), (1, .int 0), (0, .ref a0)] hX dX12_occupancy_10 rfl rfl (Nat.le_of_ble_eq_true rfl) rfl ?_
  refine g_lv [3, 2, 1, 0] rfl ?_
  exact k_X12_occupancy_11 hX hr N N M1 a0 0 0 0
set_option maxRecDepth 100000 in
set_option maxHeartbeats 4000000 in
theorem k_X12_weightOn (l : Launch) (g : kG) (N : Nat) (M : kMem) (a0 : Nat) (x1 : Int32) (x2 : Int32) : kMet l g yX12_weightOn cX12_weightOn 3 (some .int) 4 0 0 [.ref a0, .int x1, .int x2] M (fun r : Int32 => (some (.int r), M)) (F_X12_weightOn N M a0 x1 x2) := by
  refine k_of (lv := [(0, .ref a0), (1, .int x1), (2, .int x2)]) RX12 (by decide) rfl rfl (Nat.le_of_ble_eq_true rfl) ?_
  intro p e s m args below meth c hX hr _
  unfold F_X12_weightOn
  refine g_aload_n 1 0 hX dX12_weightOn_0 rfl rfl ?_
  refine g_iload_n 2 1 hX dX12_weightOn_1 rfl rfl ?_
  refine g_iload_n 3 2 hX dX12_weightOn_2 rfl rfl ?_
  refine g_callV_ip 6 hX (k_X12_onSeat l g N M a0 x1 x2) lk_X12_onSeat rfl (ci := 12) rfl (Nat.le_of_ble_eq_true rfl) q_1871 q_65 (by omega) rfl (Nat.le_of_ble_eq_true rfl) (Nat.zero_le _) (Nat.zero_le _) dX12_weightOn_3 rfl (fun r1 => ?_)
  refine g_iconst 7 hX (-1) dX12_weightOn_6 rfl kc_i_m1 ?_
  refine g_icmp_ne 14 10 hX dX12_weightOn_7 (by decide) rfl (fun _ => ?_) (fun _ => ?_)
  · refine g_aload_n 15 0 hX dX12_weightOn_14 rfl rfl ?_
    refine g_aload_n 16 0 hX dX12_weightOn_15 rfl rfl ?_
    refine g_iload_n 17 1 hX dX12_weightOn_16 rfl rfl ?_
    refine g_iload_n 18 2 hX dX12_weightOn_17 rfl rfl ?_
    refine g_callV_ip 21 hX (k_X12_onSeat l g N M a0 x1 x2) lk_X12_onSeat rfl (ci := 12) rfl (Nat.le_of_ble_eq_true rfl) q_1871 q_65 (by omega) rfl (Nat.le_of_ble_eq_true rfl) (Nat.zero_le _) (Nat.zero_le _) dX12_weightOn_18 rfl (fun r2 => ?_)
    refine g_iconst 22 hX 1 dX12_weightOn_21 rfl kc_i_1 ?_
    refine g_callV_ip 25 hX (k_X12_has l g N M a0 r2 1) lk_X12_has rfl (ci := 12) rfl (Nat.le_of_ble_eq_true rfl) q_1635 q_40 (by omega) rfl (Nat.le_of_ble_eq_true rfl) (Nat.zero_le _) (Nat.zero_le _) dX12_weightOn_22 rfl (fun r3 => ?_)
    exact g_iret hX hr rfl (Nat.le_refl 0) (Nat.le_refl 0) dX12_weightOn_25
  · refine g_iconst 11 hX 0 dX12_weightOn_10 rfl kc_i_0 ?_
    refine g_goto 25 hX dX12_weightOn_11 (by decide) ?_
    exact g_iret hX hr rfl (Nat.le_refl 0) (Nat.le_refl 0) dX12_weightOn_25
set_option maxRecDepth 100000 in
set_option maxHeartbeats 4000000 in
theorem k_X12_torqueByDistances_17 {p : Program} {l : Launch} {e : Env} {s : State} {m : MethodId} {args : Array Value} {below : List Frame} {meth : Method} {c : Code} {g : kG} (hX : Cok (p, l, e, { frames := 2 * 5, cells := 0, slots := 0, locals := 60 * 5 }, s, m, args, below, meth, c, cX12_torqueByDistances, 5, RX12, g, 5)) (hr : meth.sig.returnType = (some .int)) (N : Nat) (M : kMem) (k4 : Nat → Int32 → Int32 → Int32 → Option (Int32)) (h4 : ∀ (a0 : Nat) (x1 : Int32) (x2 : Int32) (x3 : Int32), GG (p, l, e, { frames := 2 * 5, cells := 0, slots := 0, locals := 60 * 5 }, s, m, args, below, meth, c, cX12_torqueByDistances, 5, RX12, g, 5) (fun b => MQ below (kQ g ((fun r : Int32 => (some (.int r), M)) b)) args s 0 0 (kZ g.2.2.1)) 0 0 (k4 a0 x1 x2 x3) 4 [(0, .ref a0), (1, .int x1), (2, .int x2), (3, .int x3)] [] M) : ∀ (n : Nat) (a0 : Nat) (x1 : Int32) (x2 : Int32) (x3 : Int32) (x4 : Int32), GG (p, l, e, { frames := 2 * 5, cells := 0, slots := 0, locals := 60 * 5 }, s, m, args, below, meth, c, cX12_torqueByDistances, 5, RX12, g, 5) (fun b => MQ below (kQ g ((fun r : Int32 => (some (.int r), M)) b)) args s 0 0 (kZ g.2.2.1)) 0 0 (F_X12_torqueByDistances_17 N M k4 n a0 x1 x2 x3 x4) 17 [(0, .ref a0), (1, .int x1), (2, .int x2), (3, .int x3), (4, .int x4)] [] M := by
  intro n
  induction n with
  | zero => intro _ _ _ _ _; exact g_none
  | succ n ih =>
    intro a0 x1 x2 x3 x4
    unfold F_X12_torqueByDistances_17
    refine g_iload 19 4 hX dX12_torqueByDistances_17 rfl rfl ?_
    refine g_aload_n 20 0 hX dX12_torqueByDistances_19 rfl rfl ?_
    refine g_iload_n 21 1 hX dX12_torqueByDistances_20 rfl rfl ?_
    refine g_iconst 22 hX 0 dX12_torqueByDistances_21 rfl kc_i_0 ?_
    refine g_callV_ip 25 hX (k_X12_ofBoard l g N M a0 x1 0) lk_X12_ofBoard rfl (ci := 12) rfl (Nat.le_of_ble_eq_true rfl) q_1867 q_64 (by omega) rfl (Nat.le_of_ble_eq_true rfl) (Nat.zero_le _) (Nat.zero_le _) dX12_torqueByDistances_22 rfl (fun r2 => ?_)
    refine g_icmp_gt 53 28 hX dX12_torqueByDistances_25 (by decide) rfl (fun _ => ?_) (fun _ => ?_)
    · refine g_kl (fun v3 hv3 => ?_)
      refine g_iinc 56 3 3 v3 [(3, .int v3), (0, .ref a0), (1, .int x1), (2, .int x2), (4, .int x4)] hX dX12_torqueByDistances_53 rfl rfl (by rw [hv3, kc_i_1]) (Nat.le_of_ble_eq_true rfl) rfl ?_
      refine g_goto 4 hX dX12_torqueByDistances_56 (by decide) ?_
      refine g_lv [1, 2, 3, 0] rfl ?_
      exact h4 a0 x1 x2 v3
    · refine g_iload_n 29 2 hX dX12_torqueByDistances_28 rfl rfl ?_
      refine g_aload_n 30 0 hX dX12_torqueByDistances_29 rfl rfl ?_
      refine g_iload_n 31 1 hX dX12_torqueByDistances_30 rfl rfl ?_
      refine g_iload 33 4 hX dX12_torqueByDistances_31 rfl rfl ?_
      refine g_callV_ip 36 hX (k_X12_weightOn l g N M a0 x1 x4) lk_X12_weightOn rfl (ci := 12) rfl (Nat.le_of_ble_eq_true rfl) q_2331 q_122 (by omega) rfl (Nat.le_of_ble_eq_true rfl) (Nat.zero_le _) (Nat.zero_le _) dX12_torqueByDistances_33 rfl (fun r4 => ?_)
      refine g_aload_n 37 0 hX dX12_torqueByDistances_36 rfl rfl ?_
      refine g_iload_n 38 1 hX dX12_torqueByDistances_37 rfl rfl ?_
      refine g_iload 40 4 hX dX12_torqueByDistances_38 rfl rfl ?_
      refine g_ineg 41 hX dX12_torqueByDistances_40 rfl ?_
      refine g_callV_ip 44 hX (k_X12_weightOn l g N M a0 x1 (-x4)) lk_X12_weightOn rfl (ci := 12) rfl (Nat.le_of_ble_eq_true rfl) q_2331 q_122 (by omega) rfl (Nat.le_of_ble_eq_true rfl) (Nat.zero_le _) (Nat.zero_le _) dX12_torqueByDistances_41 rfl (fun r5 => ?_)
      refine g_isub 45 hX dX12_torqueByDistances_44 rfl ?_
      refine g_iadd 46 hX dX12_torqueByDistances_45 rfl ?_
      refine g_klI (fun v6 hv6 => ?_)
      refine g_istore_n 47 2 [(2, .int v6), (0, .ref a0), (1, .int x1), (3, .int x3), (4, .int x4)] hX dX12_torqueByDistances_46 rfl rfl (Nat.le_of_ble_eq_true rfl) rfl ?_
      refine g_kl (fun v7 hv7 => ?_)
      refine g_iinc 50 4 4 v7 [(4, .int v7), (2, .int v6), (0, .ref a0), (1, .int x1), (3, .int x3)] hX dX12_torqueByDistances_47 rfl rfl (by rw [hv7, kc_i_1]) (Nat.le_of_ble_eq_true rfl) rfl ?_
      refine g_goto 17 hX dX12_torqueByDistances_50 (by decide) ?_
      refine g_lv [2, 3, 1, 4, 0] rfl ?_
      exact ih a0 x1 v6 x3 v7
set_option maxRecDepth 100000 in
set_option maxHeartbeats 4000000 in
theorem k_X12_torqueByDistances_4 {p : Program} {l : Launch} {e : Env} {s : State} {m : MethodId} {args : Array Value} {below : List Frame} {meth : Method} {c : Code} {g : kG} (hX : Cok (p, l, e, { frames := 2 * 5, cells := 0, slots := 0, locals := 60 * 5 }, s, m, args, below, meth, c, cX12_torqueByDistances, 5, RX12, g, 5)) (hr : meth.sig.returnType = (some .int)) (N : Nat) (M : kMem) : ∀ (n : Nat) (a0 : Nat) (x1 : Int32) (x2 : Int32) (x3 : Int32), GG (p, l, e, { frames := 2 * 5, cells := 0, slots := 0, locals := 60 * 5 }, s, m, args, below, meth, c, cX12_torqueByDistances, 5, RX12, g, 5) (fun b => MQ below (kQ g ((fun r : Int32 => (some (.int r), M)) b)) args s 0 0 (kZ g.2.2.1)) 0 0 (F_X12_torqueByDistances_4 N M n a0 x1 x2 x3) 4 [(0, .ref a0), (1, .int x1), (2, .int x2), (3, .int x3)] [] M := by
  intro n
  induction n with
  | zero => intro _ _ _ _; exact g_none
  | succ n ih =>
    intro a0 x1 x2 x3
    unfold F_X12_torqueByDistances_4
    refine g_iload_n 5 3 hX dX12_torqueByDistances_4 rfl rfl ?_
    refine g_aload_n 6 0 hX dX12_torqueByDistances_5 rfl rfl ?_
    refine g_iload_n 7 1 hX dX12_torqueByDistances_6 rfl rfl ?_
    refine g_iconst 8 hX 0 dX12_torqueByDistances_7 rfl kc_i_0 ?_
    refine g_callV_ip 11 hX (k_X12_ofBoard l g N M a0 x1 0) lk_X12_ofBoard rfl (ci := 12) rfl (Nat.le_of_ble_eq_true rfl) q_1867 q_64 (by omega) rfl (Nat.le_of_ble_eq_true rfl) (Nat.zero_le _) (Nat.zero_le _) dX12_torqueByDistances_8 rfl (fun r1 => ?_)
    refine g_icmp_gt 59 14 hX dX12_torqueByDistances_11 (by decide) rfl (fun _ => ?_) (fun _ => ?_)
    · refine g_iload_n 60 2 hX dX12_torqueByDistances_59 rfl rfl ?_
      exact g_iret hX hr rfl (Nat.le_refl 0) (Nat.le_refl 0) dX12_torqueByDistances_60
    · refine g_iload_n 15 3 hX dX12_torqueByDistances_14 rfl rfl ?_
      refine g_istore 17 4 [(4, .int x3), (0, .ref a0), (1, .int x1), (2, .int x2), (3, .int x3)] hX dX12_torqueByDistances_15 rfl (Nat.le_of_ble_eq_true rfl) rfl ?_
      refine g_lv [1, 2, 3, 4, 0] rfl ?_
      exact k_X12_torqueByDistances_17 hX hr N M (fun a0 x1 x2 x3 => F_X12_torqueByDistances_4 N M n a0 x1 x2 x3) ih N a0 x1 x2 x3 x3
set_option maxRecDepth 100000 in
set_option maxHeartbeats 4000000 in
theorem k_X12_torqueByDistances (l : Launch) (g : kG) (N : Nat) (M : kMem) (a0 : Nat) (x1 : Int32) : kMet l g yX12_torqueByDistances cX12_torqueByDistances 5 (some .int) 5 0 0 [.ref a0, .int x1] M (fun r : Int32 => (some (.int r), M)) (F_X12_torqueByDistances N M a0 x1) := by
  refine k_of (lv := [(0, .ref a0), (1, .int x1)]) RX12 (by decide) rfl rfl (Nat.le_of_ble_eq_true rfl) ?_
  intro p e s m args below meth c hX hr _
  unfold F_X12_torqueByDistances
  refine g_iconst 1 hX 0 dX12_torqueByDistances_0 rfl kc_i_0 ?_
  refine g_istore_n 2 2 [(2, .int 0), (0, .ref a0), (1, .int x1)] hX dX12_torqueByDistances_1 rfl rfl (Nat.le_of_ble_eq_true rfl) rfl ?_
  refine g_iconst 3 hX 1 dX12_torqueByDistances_2 rfl kc_i_1 ?_
  refine g_istore_n 4 3 [(3, .int 1), (2, .int 0), (0, .ref a0), (1, .int x1)] hX dX12_torqueByDistances_3 rfl rfl (Nat.le_of_ble_eq_true rfl) rfl ?_
  refine g_lv [2, 3, 1, 0] rfl ?_
  exact k_X12_torqueByDistances_4 hX hr N M N a0 x1 0 1
set_option maxRecDepth 100000 in
set_option maxHeartbeats 4000000 in
theorem k_X12_wrongSeats_10 {p : Program} {l : Launch} {e : Env} {s : State} {m : MethodId} {args : Array Value} {below : List Frame} {meth : Method} {c : Code} {g : kG} (hX : Cok (p, l, e, { frames := 2 * 4, cells := 0, slots := 0, locals := 60 * 4 }, s, m, args, below, meth, c, cX12_wrongSeats, 4, RX12, g, 4)) (hr : meth.sig.returnType = (some .int)) (N : Nat) (M : kMem) : ∀ (n : Nat) (a0 : Nat) (x1 : Int32) (x2 : Int32) (x3 : Int32), GG (p, l, e, { frames := 2 * 4, cells := 0, slots := 0, locals := 60 * 4 }, s, m, args, below, meth, c, cX12_wrongSeats, 4, RX12, g, 4) (fun b => MQ below (kQ g ((fun r : Int32 => (some (.int r), M)) b)) args s 0 0 (kZ g.2.2.1)) 0 0 (F_X12_wrongSeats_10 N M n a0 x1 x2 x3) 10 [(0, .ref a0), (1, .int x1), (2, .int x2), (3, .int x3)] [] M := by
  intro n
  induction n with
  | zero => intro _ _ _ _; exact g_none
  | succ n ih =>
    intro a0 x1 x2 x3
    unfold F_X12_wrongSeats_10
    refine g_iload_n 11 3 hX dX12_wrongSeats_10 rfl rfl ?_
    refine g_aload_n 12 0 hX dX12_wrongSeats_11 rfl rfl ?_
    refine g_iload_n 13 1 hX dX12_wrongSeats_12 rfl rfl ?_
    refine g_iconst 14 hX 0 dX12_wrongSeats_13 rfl kc_i_0 ?_
    refine g_callV_ip 17 hX (k_X12_ofBoard l g N M a0 x1 0) lk_X12_ofBoard rfl (ci := 12) rfl (Nat.le_of_ble_eq_true rfl) q_1867 q_64 (by omega) rfl (Nat.le_of_ble_eq_true rfl) (Nat.zero_le _) (Nat.zero_le _) dX12_wrongSeats_14 rfl (fun r3 => ?_)
    refine g_icmp_gt 82 20 hX dX12_wrongSeats_17 (by decide) rfl (fun _ => ?_) (fun _ => ?_)
    · refine g_iload_n 83 2 hX dX12_wrongSeats_82 rfl rfl ?_
      exact g_iret hX hr rfl (Nat.le_refl 0) (Nat.le_refl 0) dX12_wrongSeats_83
    · refine g_iload_n 21 3 hX dX12_wrongSeats_20 rfl rfl ?_
      refine g_if_eq 76 24 hX dX12_wrongSeats_21 (by decide) rfl (fun _ => ?_) (fun _ => ?_)
      · refine g_kl (fun v4 hv4 => ?_)
        refine g_iinc 79 3 3 v4 [(3, .int v4), (0, .ref a0), (1, .int x1), (2, .int x2)] hX dX12_wrongSeats_76 rfl rfl (by rw [hv4, kc_i_1]) (Nat.le_of_ble_eq_true rfl) rfl ?_
        refine g_goto 10 hX dX12_wrongSeats_79 (by decide) ?_
        refine g_lv [1, 2, 3, 0] rfl ?_
        exact ih a0 x1 x2 v4
      · refine g_aload_n 25 0 hX dX12_wrongSeats_24 rfl rfl ?_
        refine g_iload_n 26 1 hX dX12_wrongSeats_25 rfl rfl ?_
        refine g_iload_n 27 3 hX dX12_wrongSeats_26 rfl rfl ?_
        refine g_callV_ip 30 hX (k_X12_onSeat l g N M a0 x1 x3) lk_X12_onSeat rfl (ci := 12) rfl (Nat.le_of_ble_eq_true rfl) q_1871 q_65 (by omega) rfl (Nat.le_of_ble_eq_true rfl) (Nat.zero_le _) (Nat.zero_le _) dX12_wrongSeats_27 rfl (fun r5 => ?_)
        refine g_iconst 31 hX (-1) dX12_wrongSeats_30 rfl kc_i_m1 ?_
        refine g_icmp_eq 76 34 hX dX12_wrongSeats_31 (by decide) rfl (fun _ => ?_) (fun _ => ?_)
        · refine g_kl (fun v6 hv6 => ?_)
          refine g_iinc 79 3 3 v6 [(3, .int v6), (0, .ref a0), (1, .int x1), (2, .int x2)] hX dX12_wrongSeats_76 rfl rfl (by rw [hv6, kc_i_1]) (Nat.le_of_ble_eq_true rfl) rfl ?_
          refine g_goto 10 hX dX12_wrongSeats_79 (by decide) ?_
          refine g_lv [1, 2, 3, 0] rfl ?_
          exact ih a0 x1 x2 v6
        · refine g_iload_n 35 2 hX dX12_wrongSeats_34 rfl rfl ?_
          refine g_aload_n 36 0 hX dX12_wrongSeats_35 rfl rfl ?_
          refine g_aload_n 37 0 hX dX12_wrongSeats_36 rfl rfl ?_
          refine g_iload_n 38 1 hX dX12_wrongSeats_37 rfl rfl ?_
          refine g_iload_n 39 3 hX dX12_wrongSeats_38 rfl rfl ?_
          refine g_callV_ip 42 hX (k_X12_onSeat l g N M a0 x1 x3) lk_X12_onSeat rfl (ci := 12) rfl (Nat.le_of_ble_eq_true rfl) q_1871 q_65 (by omega) rfl (Nat.le_of_ble_eq_true rfl) (Nat.zero_le _) (Nat.zero_le _) dX12_wrongSeats_39 rfl (fun r7 => ?_)
          refine g_iconst 43 hX 5 dX12_wrongSeats_42 rfl kc_i_5 ?_
          refine g_callV_ip 46 hX (k_X12_has l g N M a0 r7 5) lk_X12_has rfl (ci := 12) rfl (Nat.le_of_ble_eq_true rfl) q_1635 q_40 (by omega) rfl (Nat.le_of_ble_eq_true rfl) (Nat.zero_le _) (Nat.zero_le _) dX12_wrongSeats_43 rfl (fun r8 => ?_)
          refine g_iload_n 47 1 hX dX12_wrongSeats_46 rfl rfl ?_
          refine g_icmp_ne 66 50 hX dX12_wrongSeats_47 (by decide) rfl (fun _ => ?_) (fun _ => ?_)
          · refine g_iconst 67 hX 1 dX12_wrongSeats_66 rfl kc_i_1 ?_
            refine g_goto 71 hX dX12_wrongSeats_67 (by decide) ?_
            refine g_callS_ip 74 hX (k_X12_flag l g N M 1) lk_X12_flag q_1935 (by omega) rfl (Nat.le_of_ble_eq_true rfl) (Nat.zero_le _) (Nat.zero_le _) dX12_wrongSeats_71 rfl (fun r9 => ?_)
            refine g_iadd 75 hX dX12_wrongSeats_74 rfl ?_
            refine g_klI (fun v10 hv10 => ?_)
            refine g_istore_n 76 2 [(2, .int v10), (0, .ref a0), (1, .int x1), (3, .int x3)] hX dX12_wrongSeats_75 rfl rfl (Nat.le_of_ble_eq_true rfl) rfl ?_
            refine g_kl (fun v11 hv11 => ?_)
            refine g_iinc 79 3 3 v11 [(3, .int v11), (2, .int v10), (0, .ref a0), (1, .int x1)] hX dX12_wrongSeats_76 rfl rfl (by rw [hv11, kc_i_1]) (Nat.le_of_ble_eq_true rfl) rfl ?_
            refine g_goto 10 hX dX12_wrongSeats_79 (by decide) ?_
            refine g_lv [2, 3, 1, 0] rfl ?_
            exact ih a0 x1 v10 v11
          · refine g_aload_n 51 0 hX dX12_wrongSeats_50 rfl rfl ?_
            refine g_aload_n 52 0 hX dX12_wrongSeats_51 rfl rfl ?_
            refine g_iload_n 53 1 hX dX12_wrongSeats_52 rfl rfl ?_
            refine g_iload_n 54 3 hX dX12_wrongSeats_53 rfl rfl ?_
            refine g_callV_ip 57 hX (k_X12_onSeat l g N M a0 x1 x3) lk_X12_onSeat rfl (ci := 12) rfl (Nat.le_of_ble_eq_true rfl) q_1871 q_65 (by omega) rfl (Nat.le_of_ble_eq_true rfl) (Nat.zero_le _) (Nat.zero_le _) dX12_wrongSeats_54 rfl (fun r12 => ?_)
            refine g_bipush 59 hX 6 dX12_wrongSeats_57 rfl kc_b_6 ?_
            refine g_callV_ip 62 hX (k_X12_has l g N M a0 r12 6) lk_X12_has rfl (ci := 12) rfl (Nat.le_of_ble_eq_true rfl) q_1635 q_40 (by omega) rfl (Nat.le_of_ble_eq_true rfl) (Nat.zero_le _) (Nat.zero_le _) dX12_wrongSeats_59 rfl (fun r13 => ?_)
            refine g_iload_n 63 3 hX dX12_wrongSeats_62 rfl rfl ?_
            refine g_icmp_eq 70 66 hX dX12_wrongSeats_63 (by decide) rfl (fun _ => ?_) (fun _ => ?_)
            · refine g_iconst 71 hX 0 dX12_wrongSeats_70 rfl kc_i_0 ?_
              refine g_callS_ip 74 hX (k_X12_flag l g N M 0) lk_X12_flag q_1935 (by omega) rfl (Nat.le_of_ble_eq_true rfl) (Nat.zero_le _) (Nat.zero_le _) dX12_wrongSeats_71 rfl (fun r14 => ?_)
              refine g_iadd 75 hX dX12_wrongSeats_74 rfl ?_
              refine g_klI (fun v15 hv15 => ?_)
              refine g_istore_n 76 2 [(2, .int v15), (0, .ref a0), (1, .int x1), (3, .int x3)] hX dX12_wrongSeats_75 rfl rfl (Nat.le_of_ble_eq_true rfl) rfl ?_
              refine g_kl (fun v16 hv16 => ?_)
              refine g_iinc 79 3 3 v16 [(3, .int v16), (2, .int v15), (0, .ref a0), (1, .int x1)] hX dX12_wrongSeats_76 rfl rfl (by rw [hv16, kc_i_1]) (Nat.le_of_ble_eq_true rfl) rfl ?_
              refine g_goto 10 hX dX12_wrongSeats_79 (by decide) ?_
              refine g_lv [2, 3, 1, 0] rfl ?_
              exact ih a0 x1 v15 v16
            · refine g_iconst 67 hX 1 dX12_wrongSeats_66 rfl kc_i_1 ?_
              refine g_goto 71 hX dX12_wrongSeats_67 (by decide) ?_
              refine g_callS_ip 74 hX (k_X12_flag l g N M 1) lk_X12_flag q_1935 (by omega) rfl (Nat.le_of_ble_eq_true rfl) (Nat.zero_le _) (Nat.zero_le _) dX12_wrongSeats_71 rfl (fun r17 => ?_)
              refine g_iadd 75 hX dX12_wrongSeats_74 rfl ?_
              refine g_klI (fun v18 hv18 => ?_)
              refine g_istore_n 76 2 [(2, .int v18), (0, .ref a0), (1, .int x1), (3, .int x3)] hX dX12_wrongSeats_75 rfl rfl (Nat.le_of_ble_eq_true rfl) rfl ?_
              refine g_kl (fun v19 hv19 => ?_)
              refine g_iinc 79 3 3 v19 [(3, .int v19), (2, .int v18), (0, .ref a0), (1, .int x1)] hX dX12_wrongSeats_76 rfl rfl (by rw [hv19, kc_i_1]) (Nat.le_of_ble_eq_true rfl) rfl ?_
              refine g_goto 10 hX dX12_wrongSeats_79 (by decide) ?_
              refine g_lv [2, 3, 1, 0] rfl ?_
              exact ih a0 x1 v18 v19
set_option maxRecDepth 100000 in
set_option maxHeartbeats 4000000 in
theorem k_X12_wrongSeats (l : Launch) (g : kG) (N : Nat) (M : kMem) (a0 : Nat) (x1 : Int32) : kMet l g yX12_wrongSeats cX12_wrongSeats 4 (some .int) 4 0 0 [.ref a0, .int x1] M (fun r : Int32 => (some (.int r), M)) (F_X12_wrongSeats N M a0 x1) := by
  refine k_of (lv := [(0, .ref a0), (1, .int x1)]) RX12 (by decide) rfl rfl (Nat.le_of_ble_eq_true rfl) ?_
  intro p e s m args below meth c hX hr _
  unfold F_X12_wrongSeats
  refine g_iconst 1 hX 0 dX12_wrongSeats_0 rfl kc_i_0 ?_
  refine g_istore_n 2 2 [(2, .int 0), (0, .ref a0), (1, .int x1)] hX dX12_wrongSeats_1 rfl rfl (Nat.le_of_ble_eq_true rfl) rfl ?_
  refine g_aload_n 3 1 hX dX12_wrongSeats_2 rfl rfl ?_
  refine g_iload_n 4 2 hX dX12_wrongSeats_3 rfl rfl ?_
  refine g_iconst 5 hX 0 dX12_wrongSeats_4 rfl kc_i_0 ?_
  refine g_callV_ip 8 hX (k_X12_ofBoard l g N M a0 x1 0) lk_X12_ofBoard rfl (ci := 12) rfl (Nat.le_of_ble_eq_true rfl) q_1867 q_64 (by omega) rfl (Nat.le_of_ble_eq_true rfl) (Nat.zero_le _) (Nat.zero_le _) dX12_wrongSeats_5 rfl (fun r1 => ?_)
  refine g_ineg 9 hX dX12_wrongSeats_8 rfl ?_
  refine g_klI (fun v2 hv2 => ?_)
  refine g_istore_n 10 3 [(3, .int v2), (2, .int 0), (0, .ref a0), (1, .int x1)] hX dX12_wrongSeats_9 rfl rfl (Nat.le_of_ble_eq_true rfl) rfl ?_
  refine g_lv [2, 3, 1, 0] rfl ?_
  exact k_X12_wrongSeats_10 hX hr N M N a0 x1 0 v2
set_option maxRecDepth 100000 in
set_option maxHeartbeats 4000000 in
theorem k_X12_contradictions_23 {p : Program} {l : Launch} {e : Env} {s : State} {m : MethodId} {args : Array Value} {below : List Frame} {meth : Method} {c : Code} {g : kG} (hX : Cok (p, l, e, { frames := 2 * 6, cells := 0, slots := 0, locals := 60 * 6 }, s, m, args, below, meth, c, cX12_contradictions, 3, RX12, g, 6)) (hr : meth.sig.returnType = (some .int)) (N : Nat) : ∀ (n : Nat) (M : kMem) (a0 : Nat) (x1 : Int32) (x2 : Int32), GG (p, l, e, { frames := 2 * 6, cells := 0, slots := 0, locals := 60 * 6 }, s, m, args, below, meth, c, cX12_contradictions, 3, RX12, g, 6) (fun b => MQ below (kQ g ((fun r : Int32 × kMem => (some (.int r.1), r.2)) b)) args s 0 0 (kZ g.2.2.1)) 0 0 (F_X12_contradictions_23 N n M a0 x1 x2) 23 [(0, .ref a0), (1, .int x1), (2, .int x2)] [] M := by
  intro n
  induction n with
  | zero => intro _ _ _ _; exact g_none
  | succ n ih =>
    intro M a0 x1 x2
    unfold F_X12_contradictions_23
    refine g_iload_n 24 2 hX dX12_contradictions_23 rfl rfl ?_
    refine g_aload_n 25 0 hX dX12_contradictions_24 rfl rfl ?_
    refine r_X12_7 28 hX dX12_contradictions_25 rfl ?_
    refine g_bipush 30 hX 7 dX12_contradictions_28 rfl kc_b_7 ?_
    refine g_iald 31 hX dX12_contradictions_30 rfl ?_
    refine g_icmp_ge 63 34 hX dX12_contradictions_31 (by decide) rfl (fun _ => ?_) (fun _ => ?_)
    · refine g_iload_n 64 1 hX dX12_contradictions_63 rfl rfl ?_
      exact g_iret hX hr rfl (Nat.le_refl 0) (Nat.le_refl 0) dX12_contradictions_64
    · refine g_iload_n 35 1 hX dX12_contradictions_34 rfl rfl ?_
      refine g_aload_n 36 0 hX dX12_contradictions_35 rfl rfl ?_
      refine g_iload_n 37 2 hX dX12_contradictions_36 rfl rfl ?_
      refine g_callV_ip 40 hX (k_X12_torqueOf l g N M a0 x2) lk_X12_torqueOf rfl (ci := 12) rfl (Nat.le_of_ble_eq_true rfl) q_1961 q_83 (by omega) rfl (Nat.le_of_ble_eq_true rfl) (Nat.zero_le _) (Nat.zero_le _) dX12_contradictions_37 rfl (fun r4 => ?_)
      refine g_aload_n 41 0 hX dX12_contradictions_40 rfl rfl ?_
      refine g_iload_n 42 2 hX dX12_contradictions_41 rfl rfl ?_
      refine g_callV_ip 45 hX (k_X12_torqueByDistances l g N M a0 x2) lk_X12_torqueByDistances rfl (ci := 12) rfl (Nat.le_of_ble_eq_true rfl) q_2327 q_121 (by omega) rfl (Nat.le_of_ble_eq_true rfl) (Nat.zero_le _) (Nat.zero_le _) dX12_contradictions_42 rfl (fun r5 => ?_)
      refine g_isub 46 hX dX12_contradictions_45 rfl ?_
      refine g_callS_ip 49 hX (k_X12_bare l g N M (r4 - r5)) lk_X12_bare q_1954 (by omega) rfl (Nat.le_of_ble_eq_true rfl) (Nat.zero_le _) (Nat.zero_le _) dX12_contradictions_46 rfl (fun r6 => ?_)
      refine g_aload_n 50 0 hX dX12_contradictions_49 rfl rfl ?_
      refine g_iload_n 51 2 hX dX12_contradictions_50 rfl rfl ?_
      refine g_callV_ip 54 hX (k_X12_wrongSeats l g N M a0 x2) lk_X12_wrongSeats rfl (ci := 12) rfl (Nat.le_of_ble_eq_true rfl) q_2335 q_123 (by omega) rfl (Nat.le_of_ble_eq_true rfl) (Nat.zero_le _) (Nat.zero_le _) dX12_contradictions_51 rfl (fun r7 => ?_)
      refine g_iadd 55 hX dX12_contradictions_54 rfl ?_
      refine g_iadd 56 hX dX12_contradictions_55 rfl ?_
      refine g_klI (fun v8 hv8 => ?_)
      refine g_istore_n 57 1 [(1, .int v8), (0, .ref a0), (2, .int x2)] hX dX12_contradictions_56 rfl rfl (Nat.le_of_ble_eq_true rfl) rfl ?_
      refine g_kl (fun v9 hv9 => ?_)
      refine g_iinc 60 2 2 v9 [(2, .int v9), (1, .int v8), (0, .ref a0)] hX dX12_contradictions_57 rfl rfl (by rw [hv9, kc_i_1]) (Nat.le_of_ble_eq_true rfl) rfl ?_
      refine g_goto 23 hX dX12_contradictions_60 (by decide) ?_
      refine g_lv [2, 1, 0] rfl ?_
      exact ih M a0 v8 v9
set_option maxRecDepth 100000 in
set_option maxHeartbeats 4000000 in
theorem k_X12_contradictions (l : Launch) (g : kG) (N : Nat) (M : kMem) (a0 : Nat) : kMet l g yX12_contradictions cX12_contradictions 3 (some .int) 6 0 0 [.ref a0] M (fun r : Int32 × kMem => (some (.int r.1), r.2)) (F_X12_contradictions N M a0) := by
  refine k_of (lv := [(0, .ref a0)]) RX12 (by decide) rfl rfl (Nat.le_of_ble_eq_true rfl) ?_
  intro p e s m args below meth c hX hr _
  unfold F_X12_contradictions
  refine g_aload_n 1 0 hX dX12_contradictions_0 rfl rfl ?_
  refine g_iconst 2 hX 0 dX12_contradictions_1 rfl kc_i_0 ?_
  refine p_X12_63 5 hX dX12_contradictions_2 rfl ?_
  refine g_klM (fun M1 hM1 => ?_)
  refine g_aload_n 6 0 hX dX12_contradictions_5 rfl rfl ?_
  refine r_X12_7 9 hX dX12_contradictions_6 rfl ?_
  refine g_bipush 11 hX 9 dX12_contradictions_9 rfl kc_b_9 ?_
  refine g_iald 12 hX dX12_contradictions_11 rfl ?_
  refine g_aload_n 13 0 hX dX12_contradictions_12 rfl rfl ?_
  refine g_callV_ip 16 hX (k_X12_allCoins l g N M1 a0) lk_X12_allCoins rfl (ci := 12) rfl (Nat.le_of_ble_eq_true rfl) q_1631 q_39 (by omega) rfl (Nat.le_of_ble_eq_true rfl) (Nat.zero_le _) (Nat.zero_le _) dX12_contradictions_13 rfl (fun r2 => ?_)
  refine g_isub 17 hX dX12_contradictions_16 rfl ?_
  refine g_callS_ip 20 hX (k_X12_bare l g N M1 ((kI M1 (kR M1 a0 0) (kx 9)) - r2)) lk_X12_bare q_1954 (by omega) rfl (Nat.le_of_ble_eq_true rfl) (Nat.zero_le _) (Nat.zero_le _) dX12_contradictions_17 rfl (fun r3 => ?_)
  refine g_istore_n 21 1 [(1, .int r3), (0, .ref a0)] hX dX12_contradictions_20 rfl rfl (Nat.le_of_ble_eq_true rfl) rfl ?_
  refine g_iconst 22 hX 0 dX12_contradictions_21 rfl kc_i_0 ?_
  refine g_istore_n 23 2 [(2, .int 0), (1, .int r3), (0, .ref a0)] hX dX12_contradictions_22 rfl rfl (Nat.le_of_ble_eq_true rfl) rfl ?_
  refine g_lv [2, 1, 0] rfl ?_
  exact k_X12_contradictions_23 hX hr N N M1 a0 r3 0
set_option maxRecDepth 100000 in
set_option maxHeartbeats 4000000 in
theorem k_X12_ofEvent (l : Launch) (g : kG) (N : Nat) (M : kMem) (a0 : Nat) (x1 : Int32) (x2 : Int32) : kMet l g yX12_ofEvent cX12_ofEvent 3 (some .int) 2 0 0 [.ref a0, .int x1, .int x2] M (fun r : Int32 × kMem => (some (.int r.1), r.2)) (F_X12_ofEvent N M a0 x1 x2) := by
  refine k_of (lv := [(0, .ref a0), (1, .int x1), (2, .int x2)]) RX12 (by decide) rfl rfl (Nat.le_of_ble_eq_true rfl) ?_
  intro p e s m args below meth c hX hr _
  unfold F_X12_ofEvent
  refine g_aload_n 1 0 hX dX12_ofEvent_0 rfl rfl ?_
  refine g_iconst 2 hX 0 dX12_ofEvent_1 rfl kc_i_0 ?_
  refine p_X12_63 5 hX dX12_ofEvent_2 rfl ?_
  refine g_klM (fun M1 hM1 => ?_)
  refine g_iload_n 6 1 hX dX12_ofEvent_5 rfl rfl ?_
  refine g_i2l 7 hX dX12_ofEvent_6 rfl ?_
  refine g_lconst 8 hX 0 dX12_ofEvent_7 rfl rfl ?_
  refine g_aload_n 9 0 hX dX12_ofEvent_8 rfl rfl ?_
  refine r_X12_7 12 hX dX12_ofEvent_9 rfl ?_
  refine g_bipush 14 hX 13 dX12_ofEvent_12 rfl kc_b_13 ?_
  refine g_iald 15 hX dX12_ofEvent_14 rfl ?_
  refine g_iconst 16 hX 1 dX12_ofEvent_15 rfl kc_i_1 ?_
  refine g_isub 17 hX dX12_ofEvent_16 rfl ?_
  refine g_i2l 18 hX dX12_ofEvent_17 rfl ?_
  refine g_callS_ip 21 hX (k_X12_in l g N M1 x1.toInt64 0 (((kI M1 (kR M1 a0 0) (kx 13)) - 1).toInt64)) lk_X12_in q_1754 (by omega) rfl (Nat.le_of_ble_eq_true rfl) (Nat.zero_le _) (Nat.zero_le _) dX12_ofEvent_18 rfl (fun r2 => ?_)
  refine g_if_eq 41 24 hX dX12_ofEvent_21 (by decide) rfl (fun _ => ?_) (fun _ => ?_)
  · refine g_iconst 42 hX (-1) dX12_ofEvent_41 rfl kc_i_m1 ?_
    exact g_iret hX hr rfl (Nat.le_refl 0) (Nat.le_refl 0) dX12_ofEvent_42
  · refine g_aload_n 25 0 hX dX12_ofEvent_24 rfl rfl ?_
    refine r_X12_7 28 hX dX12_ofEvent_25 rfl ?_
    refine g_sipush 31 hX 257 dX12_ofEvent_28 rfl kc_s_257 ?_
    refine g_iconst 32 hX 3 dX12_ofEvent_31 rfl kc_i_3 ?_
    refine g_iload_n 33 1 hX dX12_ofEvent_32 rfl rfl ?_
    refine g_imul 34 hX dX12_ofEvent_33 rfl ?_
    refine g_iadd 35 hX dX12_ofEvent_34 rfl ?_
    refine g_iload_n 36 2 hX dX12_ofEvent_35 rfl rfl ?_
    refine g_iadd 37 hX dX12_ofEvent_36 rfl ?_
    refine g_iald 38 hX dX12_ofEvent_37 rfl ?_
    refine g_goto 42 hX dX12_ofEvent_38 (by decide) ?_
    exact g_iret hX hr rfl (Nat.le_refl 0) (Nat.le_refl 0) dX12_ofEvent_42
set_option maxRecDepth 100000 in
set_option maxHeartbeats 4000000 in
theorem k_X12_eventKind (l : Launch) (g : kG) (N : Nat) (M : kMem) (a0 : Nat) (x1 : Int32) : kMet l g yX12_eventKind cX12_eventKind 2 (some .int) 3 0 0 [.ref a0, .int x1] M (fun r : Int32 × kMem => (some (.int r.1), r.2)) (F_X12_eventKind N M a0 x1) := by
  refine k_of (lv := [(0, .ref a0), (1, .int x1)]) RX12 (by decide) rfl rfl (Nat.le_of_ble_eq_true rfl) ?_
  intro p e s m args below meth c hX hr _
  unfold F_X12_eventKind
  refine g_aload_n 1 0 hX dX12_eventKind_0 rfl rfl ?_
  refine g_iload_n 2 1 hX dX12_eventKind_1 rfl rfl ?_
  refine g_iconst 3 hX 0 dX12_eventKind_2 rfl kc_i_0 ?_
  refine g_callV_i 6 hX (k_X12_ofEvent l g N M a0 x1 0) lk_X12_ofEvent rfl (ci := 12) rfl (Nat.le_of_ble_eq_true rfl) q_2343 q_124 (by omega) rfl (Nat.le_of_ble_eq_true rfl) (Nat.zero_le _) (Nat.zero_le _) dX12_eventKind_3 rfl (fun r1 => ?_)
  exact g_iret hX hr rfl (Nat.le_refl 0) (Nat.le_refl 0) dX12_eventKind_6
set_option maxRecDepth 100000 in
set_option maxHeartbeats 4000000 in
theorem k_X12_eventTrader (l : Launch) (g : kG) (N : Nat) (M : kMem) (a0 : Nat) (x1 : Int32) : kMet l g yX12_eventTrader cX12_eventTrader 2 (some .int) 3 0 0 [.ref a0, .int x1] M (fun r : Int32 × kMem => (some (.int r.1), r.2)) (F_X12_eventTrader N M a0 x1) := by
  refine k_of (lv := [(0, .ref a0), (1, .int x1)]) RX12 (by decide) rfl rfl (Nat.le_of_ble_eq_true rfl) ?_
  intro p e s m args below meth c hX hr _
  unfold F_X12_eventTrader
  refine g_aload_n 1 0 hX dX12_eventTrader_0 rfl rfl ?_
  refine g_iload_n 2 1 hX dX12_eventTrader_1 rfl rfl ?_
  refine g_iconst 3 hX 1 dX12_eventTrader_2 rfl kc_i_1 ?_
  refine g_callV_i 6 hX (k_X12_ofEvent l g N M a0 x1 1) lk_X12_ofEvent rfl (ci := 12) rfl (Nat.le_of_ble_eq_true rfl) q_2343 q_124 (by omega) rfl (Nat.le_of_ble_eq_true rfl) (Nat.zero_le _) (Nat.zero_le _) dX12_eventTrader_3 rfl (fun r1 => ?_)
  exact g_iret hX hr rfl (Nat.le_refl 0) (Nat.le_refl 0) dX12_eventTrader_6
set_option maxRecDepth 100000 in
set_option maxHeartbeats 4000000 in
theorem k_X12_eventDay (l : Launch) (g : kG) (N : Nat) (M : kMem) (a0 : Nat) (x1 : Int32) : kMet l g yX12_eventDay cX12_eventDay 2 (some .int) 3 0 0 [.ref a0, .int x1] M (fun r : Int32 × kMem => (some (.int r.1), r.2)) (F_X12_eventDay N M a0 x1) := by
  refine k_of (lv := [(0, .ref a0), (1, .int x1)]) RX12 (by decide) rfl rfl (Nat.le_of_ble_eq_true rfl) ?_
  intro p e s m args below meth c hX hr _
  unfold F_X12_eventDay
  refine g_aload_n 1 0 hX dX12_eventDay_0 rfl rfl ?_
  refine g_iload_n 2 1 hX dX12_eventDay_1 rfl rfl ?_
  refine g_iconst 3 hX 2 dX12_eventDay_2 rfl kc_i_2 ?_
  refine g_callV_i 6 hX (k_X12_ofEvent l g N M a0 x1 2) lk_X12_ofEvent rfl (ci := 12) rfl (Nat.le_of_ble_eq_true rfl) q_2343 q_124 (by omega) rfl (Nat.le_of_ble_eq_true rfl) (Nat.zero_le _) (Nat.zero_le _) dX12_eventDay_3 rfl (fun r1 => ?_)
  exact g_iret hX hr rfl (Nat.le_refl 0) (Nat.le_refl 0) dX12_eventDay_6
set_option maxRecDepth 100000 in
set_option maxHeartbeats 4000000 in
theorem k_X12_behind (l : Launch) (g : kG) (N : Nat) (M : kMem) (a0 : Nat) (x1 : Int32) (x2 : Int32) : kMet l g yX12_behind cX12_behind 5 (some .int) 10 0 0 [.ref a0, .int x1, .int x2] M (fun r : Int32 × kMem => (some (.int r.1), r.2)) (F_X12_behind N M a0 x1 x2) := by
  refine k_of (lv := [(0, .ref a0), (1, .int x1), (2, .int x2)]) RX12 (by decide) rfl rfl (Nat.le_of_ble_eq_true rfl) ?_
  intro p e s m args below meth c hX hr _
  unfold F_X12_behind
  refine g_aload_n 1 0 hX dX12_behind_0 rfl rfl ?_
  refine r_X12_7 4 hX dX12_behind_1 rfl ?_
  refine g_iconst 5 hX 0 dX12_behind_4 rfl kc_i_0 ?_
  refine g_aload_n 6 0 hX dX12_behind_5 rfl rfl ?_
  refine r_X12_13 9 hX dX12_behind_6 rfl ?_
  refine g_iconst 10 hX 0 dX12_behind_9 rfl kc_i_0 ?_
  refine g_callS_v 13 hX (k_X12_copies l g N M (kR M a0 0) 0 (kR M a0 1) 0) lk_X12_copies q_1765 (by omega) rfl (Nat.le_of_ble_eq_true rfl) (Nat.zero_le _) (Nat.zero_le _) dX12_behind_10 rfl (fun M1 => ?_)
  refine g_aload_n 14 0 hX dX12_behind_13 rfl rfl ?_
  refine g_iload_n 15 2 hX dX12_behind_14 rfl rfl ?_
  refine g_callV_i 18 hX (k_X12_days1 l g N M1 a0 x2) lk_X12_days1 rfl (ci := 12) rfl (Nat.le_of_ble_eq_true rfl) q_2044 q_103 (by omega) rfl (Nat.le_of_ble_eq_true rfl) (Nat.zero_le _) (Nat.zero_le _) dX12_behind_15 rfl (fun r2 => ?_)
  refine g_klI (fun v3 hv3 => ?_)
  refine g_istore_n 19 3 [(3, .int v3), (0, .ref a0), (1, .int x1), (2, .int x2)] hX dX12_behind_18 rfl rfl (Nat.le_of_ble_eq_true rfl) rfl ?_
  refine g_aload_n 20 1 hX dX12_behind_19 rfl rfl ?_
  refine r_X12_7 23 hX dX12_behind_20 rfl ?_
  refine g_iload_n 24 2 hX dX12_behind_23 rfl rfl ?_
  refine g_iald 25 hX dX12_behind_24 rfl ?_
  refine g_klI (fun v4 hv4 => ?_)
  refine g_istore 27 4 [(4, .int v4), (3, .int v3), (0, .ref a0), (1, .int x1), (2, .int x2)] hX dX12_behind_25 rfl (Nat.le_of_ble_eq_true rfl) rfl ?_
  refine g_aload_n 28 2 hX dX12_behind_27 rfl rfl ?_
  refine r_X12_13 31 hX dX12_behind_28 rfl ?_
  refine g_iconst 32 hX 0 dX12_behind_31 rfl kc_i_0 ?_
  refine g_aload_n 33 2 hX dX12_behind_32 rfl rfl ?_
  refine r_X12_7 36 hX dX12_behind_33 rfl ?_
  refine g_iconst 37 hX 0 dX12_behind_36 rfl kc_i_0 ?_
  refine g_callS_v 40 hX (k_X12_copies l g N r2.2 (kR r2.2 a0 1) 0 (kR r2.2 a0 0) 0) lk_X12_copies q_1765 (by omega) rfl (Nat.le_of_ble_eq_true rfl) (Nat.zero_le _) (Nat.zero_le _) dX12_behind_37 rfl (fun M5 => ?_)
  refine g_iload 42 0 hX dX12_behind_40 rfl rfl ?_
  exact g_iret hX hr rfl (Nat.le_refl 0) (Nat.le_refl 0) dX12_behind_42
set_option maxRecDepth 100000 in
set_option maxHeartbeats 4000000 in
theorem k_X12_purseAfter_31 {p : Program} {l : Launch} {e : Env} {s : State} {m : MethodId} {args : Array Value} {below : List Frame} {meth : Method} {c : Code} {g : kG} (hX : Cok (p, l, e, { frames := 2 * 11, cells := 0, slots := 0, locals := 60 * 11 }, s, m, args, below, meth, c, cX12_purseAfter, 3, RX12, g, 11)) (hr : meth.sig.returnType = (some .int)) (N : Nat) : ∀ (M : kMem) (a0 : Nat) (x1 : Int32) (x2 : Int32) (y0 : Nat) (y1 : Int32), GG (p, l, e, { frames := 2 * 11, cells := 0, slots := 0, locals := 60 * 11 }, s, m, args, below, meth, c, cX12_purseAfter, 3, RX12, g, 11) (fun b => MQ below (kQ g ((fun r : Int32 × kMem => (some (.int r.1), r.2)) b)) args s 0 0 (kZ g.2.2.1)) 0 0 (F_X12_purseAfter_31 N M a0 x1 x2 y0 y1) 31 [(0, .ref a0), (1, .int x1), (2, .int x2)] [.int y1, .ref y0] M := by
  intro M a0 x1 x2 y0 y1
  unfold F_X12_purseAfter_31
  refine g_iconst 32 hX 2 dX12_purseAfter_31 rfl kc_i_2 ?_
  refine g_callV_i 35 hX (k_X12_stops l g N M y0 y1 2) lk_X12_stops rfl (ci := 12) rfl (Nat.le_of_ble_eq_true rfl) q_1742 q_42 (by omega) rfl (Nat.le_of_ble_eq_true rfl) (Nat.zero_le _) (Nat.zero_le _) dX12_purseAfter_32 rfl (fun r4 => ?_)
  refine g_if_eq 42 38 hX dX12_purseAfter_35 (by decide) rfl (fun _ => ?_) (fun _ => ?_)
  · refine g_aload_n 43 0 hX dX12_purseAfter_42 rfl rfl ?_
    refine g_iload_n 44 1 hX dX12_purseAfter_43 rfl rfl ?_
    refine g_iconst 45 hX 2 dX12_purseAfter_44 rfl kc_i_2 ?_
    refine g_callS_ip 48 hX (k_X12_atTrader l g N r4.2 x1 2) lk_X12_atTrader q_1621 (by omega) rfl (Nat.le_of_ble_eq_true rfl) (Nat.zero_le _) (Nat.zero_le _) dX12_purseAfter_45 rfl (fun r5 => ?_)
    refine g_iload_n 49 2 hX dX12_purseAfter_48 rfl rfl ?_
    refine g_callV_i 52 hX (k_X12_behind l g N r4.2 a0 r5 x2) lk_X12_behind rfl (ci := 12) rfl (Nat.le_of_ble_eq_true rfl) q_2360 q_125 (by omega) rfl (Nat.le_of_ble_eq_true rfl) (Nat.zero_le _) (Nat.zero_le _) dX12_purseAfter_49 rfl (fun r6 => ?_)
    exact g_iret hX hr rfl (Nat.le_refl 0) (Nat.le_refl 0) dX12_purseAfter_52
  · refine g_iconst 39 hX 0 dX12_purseAfter_38 rfl kc_i_0 ?_
    refine g_goto 52 hX dX12_purseAfter_39 (by decide) ?_
    exact g_iret hX hr rfl (Nat.le_refl 0) (Nat.le_refl 0) dX12_purseAfter_52
set_option maxRecDepth 100000 in
set_option maxHeartbeats 4000000 in
theorem k_X12_purseAfter (l : Launch) (g : kG) (N : Nat) (M : kMem) (a0 : Nat) (x1 : Int32) (x2 : Int32) : kMet l g yX12_purseAfter cX12_purseAfter 3 (some .int) 11 0 0 [.ref a0, .int x1, .int x2] M (fun r : Int32 × kMem => (some (.int r.1), r.2)) (F_X12_purseAfter N M a0 x1 x2) := by
  refine k_of (lv := [(0, .ref a0), (1, .int x1), (2, .int x2)]) RX12 (by decide) rfl rfl (Nat.le_of_ble_eq_true rfl) ?_
  intro p e s m args below meth c hX hr _
  unfold F_X12_purseAfter
  refine g_aload_n 1 0 hX dX12_purseAfter_0 rfl rfl ?_
  refine g_iconst 2 hX 0 dX12_purseAfter_1 rfl kc_i_0 ?_
  refine p_X12_63 5 hX dX12_purseAfter_2 rfl ?_
  refine g_klM (fun M1 hM1 => ?_)
  refine g_aload_n 6 0 hX dX12_purseAfter_5 rfl rfl ?_
  refine g_iload_n 7 1 hX dX12_purseAfter_6 rfl rfl ?_
  refine g_callV_i 10 hX (k_X12_noTrader l g N M1 a0 x1) lk_X12_noTrader rfl (ci := 12) rfl (Nat.le_of_ble_eq_true rfl) q_2094 q_111 (by omega) rfl (Nat.le_of_ble_eq_true rfl) (Nat.zero_le _) (Nat.zero_le _) dX12_purseAfter_7 rfl (fun r2 => ?_)
  refine g_if_ne 38 13 hX dX12_purseAfter_10 (by decide) rfl (fun _ => ?_) (fun _ => ?_)
  · refine g_iconst 39 hX 0 dX12_purseAfter_38 rfl kc_i_0 ?_
    refine g_goto 52 hX dX12_purseAfter_39 (by decide) ?_
    exact g_iret hX hr rfl (Nat.le_refl 0) (Nat.le_refl 0) dX12_purseAfter_52
  · refine g_aload_n 14 0 hX dX12_purseAfter_13 rfl rfl ?_
    refine g_iload_n 15 2 hX dX12_purseAfter_14 rfl rfl ?_
    refine g_i2l 16 hX dX12_purseAfter_15 rfl ?_
    refine g_lconst 17 hX 0 dX12_purseAfter_16 rfl rfl ?_
    refine g_ldc2 20 hX 100 dX12_purseAfter_17 rfl q_2359 ?_
    refine g_callS_ip 23 hX (k_X12_in l g N r2.2 x2.toInt64 0 100) lk_X12_in q_1754 (by omega) rfl (Nat.le_of_ble_eq_true rfl) (Nat.zero_le _) (Nat.zero_le _) dX12_purseAfter_20 rfl (fun r3 => ?_)
    refine g_if_ne 30 26 hX dX12_purseAfter_23 (by decide) rfl (fun _ => ?_) (fun _ => ?_)
    · refine g_iconst 31 hX 0 dX12_purseAfter_30 rfl kc_i_0 ?_
      exact k_X12_purseAfter_31 hX hr N r2.2 a0 x1 x2 a0 0
    · refine g_iconst 27 hX 1 dX12_purseAfter_26 rfl kc_i_1 ?_
      refine g_goto 31 hX dX12_purseAfter_27 (by decide) ?_
      exact k_X12_purseAfter_31 hX hr N r2.2 a0 x1 x2 a0 1
set_option maxRecDepth 100000 in
set_option maxHeartbeats 4000000 in
theorem k_X12_bankAfter_23 {p : Program} {l : Launch} {e : Env} {s : State} {m : MethodId} {args : Array Value} {below : List Frame} {meth : Method} {c : Code} {g : kG} (hX : Cok (p, l, e, { frames := 2 * 11, cells := 0, slots := 0, locals := 60 * 11 }, s, m, args, below, meth, c, cX12_bankAfter, 2, RX12, g, 11)) (hr : meth.sig.returnType = (some .int)) (N : Nat) : ∀ (M : kMem) (a0 : Nat) (x1 : Int32) (y0 : Nat) (y1 : Int32), GG (p, l, e, { frames := 2 * 11, cells := 0, slots := 0, locals := 60 * 11 }, s, m, args, below, meth, c, cX12_bankAfter, 2, RX12, g, 11) (fun b => MQ below (kQ g ((fun r : Int32 × kMem => (some (.int r.1), r.2)) b)) args s 0 0 (kZ g.2.2.1)) 0 0 (F_X12_bankAfter_23 N M a0 x1 y0 y1) 23 [(0, .ref a0), (1, .int x1)] [.int y1, .ref y0] M := by
  intro M a0 x1 y0 y1
  unfold F_X12_bankAfter_23
  refine g_iconst 24 hX 1 dX12_bankAfter_23 rfl kc_i_1 ?_
  refine g_callV_i 27 hX (k_X12_stops l g N M y0 y1 1) lk_X12_stops rfl (ci := 12) rfl (Nat.le_of_ble_eq_true rfl) q_1742 q_42 (by omega) rfl (Nat.le_of_ble_eq_true rfl) (Nat.zero_le _) (Nat.zero_le _) dX12_bankAfter_24 rfl (fun r3 => ?_)
  refine g_if_eq 34 30 hX dX12_bankAfter_27 (by decide) rfl (fun _ => ?_) (fun _ => ?_)
  · refine g_aload_n 35 0 hX dX12_bankAfter_34 rfl rfl ?_
    refine g_iconst 36 hX 5 dX12_bankAfter_35 rfl kc_i_5 ?_
    refine g_iload_n 37 1 hX dX12_bankAfter_36 rfl rfl ?_
    refine g_callV_i 40 hX (k_X12_behind l g N r3.2 a0 5 x1) lk_X12_behind rfl (ci := 12) rfl (Nat.le_of_ble_eq_true rfl) q_2360 q_125 (by omega) rfl (Nat.le_of_ble_eq_true rfl) (Nat.zero_le _) (Nat.zero_le _) dX12_bankAfter_37 rfl (fun r4 => ?_)
    exact g_iret hX hr rfl (Nat.le_refl 0) (Nat.le_refl 0) dX12_bankAfter_40
  · refine g_iconst 31 hX 0 dX12_bankAfter_30 rfl kc_i_0 ?_
    refine g_goto 40 hX dX12_bankAfter_31 (by decide) ?_
    exact g_iret hX hr rfl (Nat.le_refl 0) (Nat.le_refl 0) dX12_bankAfter_40
set_option maxRecDepth 100000 in
set_option maxHeartbeats 4000000 in
theorem k_X12_bankAfter (l : Launch) (g : kG) (N : Nat) (M : kMem) (a0 : Nat) (x1 : Int32) : kMet l g yX12_bankAfter cX12_bankAfter 2 (some .int) 11 0 0 [.ref a0, .int x1] M (fun r : Int32 × kMem => (some (.int r.1), r.2)) (F_X12_bankAfter N M a0 x1) := by
  refine k_of (lv := [(0, .ref a0), (1, .int x1)]) RX12 (by decide) rfl rfl (Nat.le_of_ble_eq_true rfl) ?_
  intro p e s m args below meth c hX hr _
  unfold F_X12_bankAfter
  refine g_aload_n 1 0 hX dX12_bankAfter_0 rfl rfl ?_
  refine g_iconst 2 hX 0 dX12_bankAfter_1 rfl kc_i_0 ?_
  refine p_X12_63 5 hX dX12_bankAfter_2 rfl ?_
  refine g_klM (fun M1 hM1 => ?_)
  refine g_aload_n 6 0 hX dX12_bankAfter_5 rfl rfl ?_
  refine g_iload_n 7 1 hX dX12_bankAfter_6 rfl rfl ?_
  refine g_i2l 8 hX dX12_bankAfter_7 rfl ?_
  refine g_lconst 9 hX 0 dX12_bankAfter_8 rfl rfl ?_
  refine g_ldc2 12 hX 100 dX12_bankAfter_9 rfl q_2359 ?_
  refine g_callS_ip 15 hX (k_X12_in l g N M1 x1.toInt64 0 100) lk_X12_in q_1754 (by omega) rfl (Nat.le_of_ble_eq_true rfl) (Nat.zero_le _) (Nat.zero_le _) dX12_bankAfter_12 rfl (fun r2 => ?_)
  refine g_if_ne 22 18 hX dX12_bankAfter_15 (by decide) rfl (fun _ => ?_) (fun _ => ?_)
  · refine g_iconst 23 hX 0 dX12_bankAfter_22 rfl kc_i_0 ?_
    exact k_X12_bankAfter_23 hX hr N M1 a0 x1 a0 0
  · refine g_iconst 19 hX 1 dX12_bankAfter_18 rfl kc_i_1 ?_
    refine g_goto 23 hX dX12_bankAfter_19 (by decide) ?_
    exact k_X12_bankAfter_23 hX hr N M1 a0 x1 a0 1
set_option maxRecDepth 100000 in
set_option maxHeartbeats 4000000 in
theorem k_X12_daysUntilFall_62 {p : Program} {l : Launch} {e : Env} {s : State} {m : MethodId} {args : Array Value} {below : List Frame} {meth : Method} {c : Code} {g : kG} (hX : Cok (p, l, e, { frames := 2 * 9, cells := 0, slots := 0, locals := 60 * 9 }, s, m, args, below, meth, c, cX12_daysUntilFall, 3, RX12, g, 9)) (hr : meth.sig.returnType = (some .int)) (N : Nat) : ∀ (M : kMem) (a0 : Nat) (x1 : Int32) (x2 : Int32), GG (p, l, e, { frames := 2 * 9, cells := 0, slots := 0, locals := 60 * 9 }, s, m, args, below, meth, c, cX12_daysUntilFall, 3, RX12, g, 9) (fun b => MQ below (kQ g ((fun r : Int32 × kMem => (some (.int r.1), r.2)) b)) args s 0 0 (kZ g.2.2.1)) 0 0 (F_X12_daysUntilFall_62 N M a0 x1 x2) 62 [(0, .ref a0), (1, .int x1), (2, .int x2)] [] M := by
  intro M a0 x1 x2
  unfold F_X12_daysUntilFall_62
  refine g_aload_n 63 0 hX dX12_daysUntilFall_62 rfl rfl ?_
  refine r_X12_13 66 hX dX12_daysUntilFall_63 rfl ?_
  refine g_iconst 67 hX 0 dX12_daysUntilFall_66 rfl kc_i_0 ?_
  refine g_aload_n 68 0 hX dX12_daysUntilFall_67 rfl rfl ?_
  refine r_X12_7 71 hX dX12_daysUntilFall_68 rfl ?_
  refine g_iconst 72 hX 0 dX12_daysUntilFall_71 rfl kc_i_0 ?_
  refine g_callS_v 75 hX (k_X12_copies l g N M (kR M a0 1) 0 (kR M a0 0) 0) lk_X12_copies q_1765 (by omega) rfl (Nat.le_of_ble_eq_true rfl) (Nat.zero_le _) (Nat.zero_le _) dX12_daysUntilFall_72 rfl (fun M5 => ?_)
  refine g_aload_n 76 0 hX dX12_daysUntilFall_75 rfl rfl ?_
  refine r_X12_26 79 hX dX12_daysUntilFall_76 rfl ?_
  refine g_iload_n 80 1 hX dX12_daysUntilFall_79 rfl rfl ?_
  refine g_zald 81 hX dX12_daysUntilFall_80 rfl ?_
  refine g_if_eq 88 84 hX dX12_daysUntilFall_81 (by decide) rfl (fun _ => ?_) (fun _ => ?_)
  · refine g_iconst 89 hX (-1) dX12_daysUntilFall_88 rfl kc_i_m1 ?_
    exact g_iret hX hr rfl (Nat.le_refl 0) (Nat.le_refl 0) dX12_daysUntilFall_89
  · refine g_iload_n 85 2 hX dX12_daysUntilFall_84 rfl rfl ?_
    refine g_goto 89 hX dX12_daysUntilFall_85 (by decide) ?_
    exact g_iret hX hr rfl (Nat.le_refl 0) (Nat.le_refl 0) dX12_daysUntilFall_89
set_option maxRecDepth 100000 in
set_option maxHeartbeats 4000000 in
theorem k_X12_daysUntilFall_37 {p : Program} {l : Launch} {e : Env} {s : State} {m : MethodId} {args : Array Value} {below : List Frame} {meth : Method} {c : Code} {g : kG} (hX : Cok (p, l, e, { frames := 2 * 9, cells := 0, slots := 0, locals := 60 * 9 }, s, m, args, below, meth, c, cX12_daysUntilFall, 3, RX12, g, 9)) (hr : meth.sig.returnType = (some .int)) (N : Nat) : ∀ (n : Nat) (M : kMem) (a0 : Nat) (x1 : Int32) (x2 : Int32), GG (p, l, e, { frames := 2 * 9, cells := 0, slots := 0, locals := 60 * 9 }, s, m, args, below, meth, c, cX12_daysUntilFall, 3, RX12, g, 9) (fun b => MQ below (kQ g ((fun r : Int32 × kMem => (some (.int r.1), r.2)) b)) args s 0 0 (kZ g.2.2.1)) 0 0 (F_X12_daysUntilFall_37 N n M a0 x1 x2) 37 [(0, .ref a0), (1, .int x1), (2, .int x2)] [] M := by
  intro n
  induction n with
  | zero => intro _ _ _ _; exact g_none
  | succ n ih =>
    intro M a0 x1 x2
    unfold F_X12_daysUntilFall_37
    refine g_iload_n 38 2 hX dX12_daysUntilFall_37 rfl rfl ?_
    refine g_bipush 40 hX 100 dX12_daysUntilFall_38 rfl kc_b_100 ?_
    refine g_icmp_ge 62 43 hX dX12_daysUntilFall_40 (by decide) rfl (fun _ => ?_) (fun _ => ?_)
    · exact k_X12_daysUntilFall_62 hX hr N M a0 x1 x2
    · refine g_aload_n 44 0 hX dX12_daysUntilFall_43 rfl rfl ?_
      refine r_X12_26 47 hX dX12_daysUntilFall_44 rfl ?_
      refine g_iload_n 48 1 hX dX12_daysUntilFall_47 rfl rfl ?_
      refine g_zald 49 hX dX12_daysUntilFall_48 rfl ?_
      refine g_if_ne 62 52 hX dX12_daysUntilFall_49 (by decide) rfl (fun _ => ?_) (fun _ => ?_)
      · exact k_X12_daysUntilFall_62 hX hr N M a0 x1 x2
      · refine g_aload_n 53 0 hX dX12_daysUntilFall_52 rfl rfl ?_
        refine g_callV_v 56 hX (k_X12_day1 l g N M a0) lk_X12_day1 rfl (ci := 12) rfl (Nat.le_of_ble_eq_true rfl) q_2048 q_104 (by omega) rfl (Nat.le_of_ble_eq_true rfl) (Nat.zero_le _) (Nat.zero_le _) dX12_daysUntilFall_53 rfl (fun M6 => ?_)
        refine g_kl (fun v7 hv7 => ?_)
        refine g_iinc 59 2 2 v7 [(2, .int v7), (0, .ref a0), (1, .int x1)] hX dX12_daysUntilFall_56 rfl rfl (by rw [hv7, kc_i_1]) (Nat.le_of_ble_eq_true rfl) rfl ?_
        refine g_goto 37 hX dX12_daysUntilFall_59 (by decide) ?_
        refine g_lv [1, 2, 0] rfl ?_
        exact ih M6 a0 x1 v7
set_option maxRecDepth 100000 in
set_option maxHeartbeats 4000000 in
theorem k_X12_daysUntilFall (l : Launch) (g : kG) (N : Nat) (M : kMem) (a0 : Nat) (x1 : Int32) : kMet l g yX12_daysUntilFall cX12_daysUntilFall 3 (some .int) 9 0 0 [.ref a0, .int x1] M (fun r : Int32 × kMem => (some (.int r.1), r.2)) (F_X12_daysUntilFall N M a0 x1) := by
  refine k_of (lv := [(0, .ref a0), (1, .int x1)]) RX12 (by decide) rfl rfl (Nat.le_of_ble_eq_true rfl) ?_
  intro p e s m args below meth c hX hr _
  unfold F_X12_daysUntilFall
  refine g_aload_n 1 0 hX dX12_daysUntilFall_0 rfl rfl ?_
  refine g_iconst 2 hX 0 dX12_daysUntilFall_1 rfl kc_i_0 ?_
  refine p_X12_63 5 hX dX12_daysUntilFall_2 rfl ?_
  refine g_klM (fun M1 hM1 => ?_)
  refine g_aload_n 6 0 hX dX12_daysUntilFall_5 rfl rfl ?_
  refine g_iload_n 7 1 hX dX12_daysUntilFall_6 rfl rfl ?_
  refine g_callV_i 10 hX (k_X12_noTrader l g N M1 a0 x1) lk_X12_noTrader rfl (ci := 12) rfl (Nat.le_of_ble_eq_true rfl) q_2094 q_111 (by omega) rfl (Nat.le_of_ble_eq_true rfl) (Nat.zero_le _) (Nat.zero_le _) dX12_daysUntilFall_7 rfl (fun r2 => ?_)
  refine g_if_eq 15 13 hX dX12_daysUntilFall_10 (by decide) rfl (fun _ => ?_) (fun _ => ?_)
  · refine g_aload_n 16 0 hX dX12_daysUntilFall_15 rfl rfl ?_
    refine r_X12_7 19 hX dX12_daysUntilFall_16 rfl ?_
    refine g_iconst 20 hX 0 dX12_daysUntilFall_19 rfl kc_i_0 ?_
    refine g_aload_n 21 0 hX dX12_daysUntilFall_20 rfl rfl ?_
    refine r_X12_13 24 hX dX12_daysUntilFall_21 rfl ?_
    refine g_iconst 25 hX 0 dX12_daysUntilFall_24 rfl kc_i_0 ?_
    refine g_callS_v 28 hX (k_X12_copies l g N r2.2 (kR r2.2 a0 0) 0 (kR r2.2 a0 1) 0) lk_X12_copies q_1765 (by omega) rfl (Nat.le_of_ble_eq_true rfl) (Nat.zero_le _) (Nat.zero_le _) dX12_daysUntilFall_25 rfl (fun M3 => ?_)
    refine g_aload_n 29 0 hX dX12_daysUntilFall_28 rfl rfl ?_
    refine r_X12_26 32 hX dX12_daysUntilFall_29 rfl ?_
    refine g_iload_n 33 1 hX dX12_daysUntilFall_32 rfl rfl ?_
    refine g_iconst 34 hX 0 dX12_daysUntilFall_33 rfl kc_i_0 ?_
    refine g_zast 35 hX dX12_daysUntilFall_34 rfl ?_
    refine g_klM (fun M4 hM4 => ?_)
    refine g_iconst 36 hX 0 dX12_daysUntilFall_35 rfl kc_i_0 ?_
    refine g_istore_n 37 2 [(2, .int 0), (0, .ref a0), (1, .int x1)] hX dX12_daysUntilFall_36 rfl rfl (Nat.le_of_ble_eq_true rfl) rfl ?_
    refine g_lv [1, 2, 0] rfl ?_
    exact k_X12_daysUntilFall_37 hX hr N N M4 a0 x1 0
  · refine g_iconst 14 hX 0 dX12_daysUntilFall_13 rfl kc_i_0 ?_
    exact g_iret hX hr rfl (Nat.le_refl 0) (Nat.le_refl 0) dX12_daysUntilFall_14
