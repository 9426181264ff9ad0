set_option maxRecDepth 100000 in
set_option maxHeartbeats 4000000 in
theorem k_LB_init (l : Launch) (g : kG) (N : Nat) (M : kMem) (a0 : Nat) (x1 : Int32) (x2 : Int32) (x3 : Int32) (x4 : Int32) : kMetD l g yLB_init cLB_init 5 none 4 [.ref a0, .int x1, .int x2, .int x3, .int x4] M (fun r : kMem => (none, r)) (F_LB_init N M a0 x1 x2 x3 x4) := by
  refine k_ofD (lv := [(0, .ref a0), (1, .int x1), (2, .int x2), (3, .int x3), (4, .int x4)]) RLB (by decide) rfl rfl (Nat.le_of_ble_eq_true rfl) ?_
  unfold F_LB_init
  refine d_st (fun hX _ => g_aload_n 1 0 (hX _) dLB_init_0 rfl rfl) rfl ?_
  refine d_objInit 4 q_928 (Nat.le_of_ble_eq_true rfl) (by decide) dLB_init_1 rfl ?_
  refine d_st (fun hX _ => g_aload_n 5 0 (hX _) dLB_init_4 rfl rfl) rfl ?_
  refine dn_TM 8 q_929 dLB_init_5 rfl ?_
  refine d_klR (fun w1 hw1 => ?_)
  refine d_klM (fun M2 hM2 => ?_)
  refine d_st (fun hX _ => g_dup 9 (hX _) dLB_init_8 rfl rfl) rfl ?_
  refine d_callI 12 (k_TM_init l g N M2 w1) lk_TM_init q_931 rfl (by decide) rfl (Nat.le_of_ble_eq_true rfl) dLB_init_9 rfl (fun r3 _ => ?_)
  show GD _ _ _ _ _ [.ref w1, .ref a0] r3
  refine d_stN (fun hX hn _ _ => ur_LB_10 15 (hX _) hn dLB_init_12 rfl) rfl ?_
  refine d_klM (fun M4 hM4 => ?_)
  refine d_st (fun hX _ => g_aload_n 16 0 (hX _) dLB_init_15 rfl rfl) rfl ?_
  refine d_st (fun hX _ => g_iload_n 17 1 (hX _) dLB_init_16 rfl rfl) rfl ?_
  refine d_stN (fun hX hn _ _ => ui_LB_16 20 (hX _) hn dLB_init_17 rfl) rfl ?_
  refine d_klM (fun M5 hM5 => ?_)
  refine d_st (fun hX _ => g_aload_n 21 0 (hX _) dLB_init_20 rfl rfl) rfl ?_
  refine d_st (fun hX _ => g_iload_n 22 2 (hX _) dLB_init_21 rfl rfl) rfl ?_
  refine d_stN (fun hX hn _ _ => ui_LB_20 25 (hX _) hn dLB_init_22 rfl) rfl ?_
  refine d_klM (fun M6 hM6 => ?_)
  refine d_st (fun hX _ => g_aload_n 26 0 (hX _) dLB_init_25 rfl rfl) rfl ?_
  refine d_st (fun hX _ => g_iload_n 27 3 (hX _) dLB_init_26 rfl rfl) rfl ?_
  refine d_stN (fun hX hn _ _ => ui_LB_23 30 (hX _) hn dLB_init_27 rfl) rfl ?_
  refine d_klM (fun M7 hM7 => ?_)
  refine d_st (fun hX _ => g_aload_n 31 0 (hX _) dLB_init_30 rfl rfl) rfl ?_
  refine d_st (fun hX _ => g_iload 33 4 (hX _) dLB_init_31 rfl rfl) rfl ?_
  refine d_stN (fun hX hn _ _ => ui_LB_26 36 (hX _) hn dLB_init_33 rfl) rfl ?_
  refine d_klM (fun M8 hM8 => ?_)
  exact d_vret rfl rfl dLB_init_36
set_option maxRecDepth 100000 in
set_option maxHeartbeats 4000000 in
theorem k_LB_torque_15 {l : Launch} {g : kG} {L0 : Nat} (N : Nat) : ∀ (n : Nat) (M : kMem) (x1 : Int32) (a2 : Nat), GD (l, cLB_torque, 4, RLB, g, 5, L0, (some .int), yLB_torque.name) (fun r : Int32 × kMem => (some (.int r.1), r.2)) (F_LB_torque_15 N n M x1 a2) 15 [(1, .int x1), (2, .ref a2)] [] M := by
  intro n
  induction n with
  | zero => intro _ _ _; exact d_none
  | succ n ih =>
    intro M x1 a2
    unfold F_LB_torque_15
    refine d_st (fun hX _ => g_aload_n 16 1 (hX _) dLB_torque_15 rfl rfl) rfl ?_
    refine d_callF 21 (k_PI_hasNext l g N M a2) lk_PI_hasNext (ci := 37) (T := TTI) (N := 4) rfl (Nat.le_of_ble_eq_true rfl) q_1816 q_1826 (by decide +kernel) (by decide +kernel) (by decide) rfl (Nat.le_of_ble_eq_true rfl) dLB_torque_16 rfl (fun r4 _ => ?_)
    show GD _ _ _ _ _ [.int r4] M
    refine d_if (fun hX _ => g_if_eq 49 24 (hX _) dLB_torque_21 (by decide) rfl) (fun _ => ?_) (fun _ => ?_)
    · refine d_st (fun hX _ => g_iload_n 50 0 (hX _) dLB_torque_49 rfl rfl) rfl ?_
      exact d_iret rfl rfl dLB_torque_50
    · refine d_st (fun hX _ => g_aload_n 25 1 (hX _) dLB_torque_24 rfl rfl) rfl ?_
      refine d_callF 30 (k_TI_next l g N M a2) lk_TI_next (ci := 37) (T := TTI) (N := 4) rfl (Nat.le_of_ble_eq_true rfl) q_1832 q_1844 (by decide +kernel) (by decide +kernel) (by decide) rfl (Nat.le_of_ble_eq_true rfl) dLB_torque_25 rfl (fun r5 _ => ?_)
      show GD _ _ _ _ _ [.ref r5.1] r5.2
      refine d_g (fun hX _ => g_cast 33 (hX _) (ci := 32) (T := TLT) (N := 7) rfl (Nat.le_of_ble_eq_true rfl) q_1858 dLB_torque_30 rfl) rfl ?_
      refine d_klR (fun w6 hw6 => ?_)
      refine d_st (fun hX _ => g_astore_n 34 3 [(3, .ref w6), (1, .int x1), (2, .ref a2)] (hX _) dLB_torque_33 rfl rfl (Nat.le_of_ble_eq_true rfl) rfl) rfl ?_
      refine d_st (fun hX _ => g_iload_n 35 1 (hX _) dLB_torque_34 rfl rfl) rfl ?_
      refine d_st (fun hX _ => g_aload_n 36 0 (hX _) dLB_torque_35 rfl rfl) rfl ?_
      refine d_g (fun hX _ => e_LB_51 39 (hX _) dLB_torque_36 rfl) rfl ?_
      refine d_st (fun hX _ => g_aload_n 40 0 (hX _) dLB_torque_39 rfl rfl) rfl ?_
      refine d_g (fun hX _ => e_LB_54 43 (hX _) dLB_torque_40 rfl) rfl ?_
      refine d_st (fun hX _ => g_imul 44 (hX _) dLB_torque_43 rfl) rfl ?_
      refine d_st (fun hX _ => g_iadd 45 (hX _) dLB_torque_44 rfl) rfl ?_
      refine d_klI (fun v7 hv7 => ?_)
      refine d_st (fun hX _ => g_istore_n 46 1 [(1, .int v7), (3, .ref w6), (2, .ref a2)] (hX _) dLB_torque_45 rfl rfl (Nat.le_of_ble_eq_true rfl) rfl) rfl ?_
      refine d_st (fun hX _ => g_goto 15 (hX _) dLB_torque_46 (by decide)) rfl ?_
      refine d_st (fun hX _ => g_lv [0, 2] rfl) rfl ?_
      exact ih r5.2 v7 a2
set_option maxRecDepth 100000 in
set_option maxHeartbeats 4000000 in
theorem k_LB_torque (l : Launch) (g : kG) (N : Nat) (M : kMem) (a0 : Nat) : kMetD l g yLB_torque cLB_torque 4 (some .int) 5 [.ref a0] M (fun r : Int32 × kMem => (some (.int r.1), r.2)) (F_LB_torque N M a0) := by
  refine k_ofD (lv := [(0, .ref a0)]) RLB (by decide) rfl rfl (Nat.le_of_ble_eq_true rfl) ?_
  unfold F_LB_torque
  refine d_st (fun hX _ => g_iconst 1 (hX _) 0 dLB_torque_0 rfl kc_i_0) rfl ?_
  refine d_st (fun hX _ => g_istore_n 2 1 [(1, .int 0), (0, .ref a0)] (hX _) dLB_torque_1 rfl rfl (Nat.le_of_ble_eq_true rfl) rfl) rfl ?_
  refine d_st (fun hX _ => g_aload_n 3 1 (hX _) dLB_torque_2 rfl rfl) rfl ?_
  refine d_g (fun hX _ => e_LB_10 6 (hX _) dLB_torque_3 rfl) rfl ?_
  refine d_callV 9 (k_TM_values l g N M (kR M a0 4)) lk_TM_values (ci := 34) (T := TTM) (N := 9) rfl (Nat.le_of_ble_eq_true rfl) q_1740 (fun s args ht => ht _ q_1742) (by decide) rfl (Nat.le_of_ble_eq_true rfl) dLB_torque_6 rfl (fun r1 _ => ?_)
  show GD _ _ _ _ _ [.ref r1.1] r1.2
  refine d_callF 14 (k_TV_iterator l g N r1.2 r1.1) lk_TV_iterator (ci := 36) (T := TTV) (N := 1) rfl (Nat.le_of_ble_eq_true rfl) q_1755 q_1784 (by decide +kernel) (by decide +kernel) (by decide) rfl (Nat.le_of_ble_eq_true rfl) dLB_torque_9 rfl (fun r2 _ => ?_)
  show GD _ _ _ _ _ [.ref r2.1] r2.2
  refine d_klR (fun w3 hw3 => ?_)
  refine d_st (fun hX _ => g_astore_n 15 2 [(2, .ref w3), (1, .int 0), (0, .ref a0)] (hX _) dLB_torque_14 rfl rfl (Nat.le_of_ble_eq_true rfl) rfl) rfl ?_
  refine d_st (fun hX _ => g_lv [1, 0] rfl) rfl ?_
  exact k_LB_torque_15 N N r2.2 0 w3
set_option maxRecDepth 100000 in
set_option maxHeartbeats 4000000 in
theorem k_LB_tilt (l : Launch) (g : kG) (N : Nat) (M : kMem) (a0 : Nat) : kMetD l g yLB_tilt cLB_tilt 2 (some .int) 6 [.ref a0] M (fun r : Int32 × kMem => (some (.int r.1), r.2)) (F_LB_tilt N M a0) := by
  refine k_ofD (lv := [(0, .ref a0)]) RLB (by decide) rfl rfl (Nat.le_of_ble_eq_true rfl) ?_
  unfold F_LB_tilt
  refine d_st (fun hX _ => g_aload_n 1 0 (hX _) dLB_tilt_0 rfl rfl) rfl ?_
  refine d_callV 4 (k_LB_torque l g N M a0) lk_LB_torque (ci := 31) (T := TLB) (N := 5) rfl (Nat.le_of_ble_eq_true rfl) q_1736 (fun s args ht => ht _ q_1738) (by decide) rfl (Nat.le_of_ble_eq_true rfl) dLB_tilt_1 rfl (fun r1 _ => ?_)
  show GD _ _ _ _ _ [.int r1.1] r1.2
  refine d_st (fun hX _ => g_aload_n 5 0 (hX _) dLB_tilt_4 rfl rfl) rfl ?_
  refine d_g (fun hX _ => e_LB_23 8 (hX _) dLB_tilt_5 rfl) rfl ?_
  refine d_g (fun hX _ => g_idiv 9 (hX _) dLB_tilt_8 rfl) rfl ?_
  refine d_klI (fun v2 hv2 => ?_)
  refine d_st (fun hX _ => g_istore_n 10 1 [(1, .int v2), (0, .ref a0)] (hX _) dLB_tilt_9 rfl rfl (Nat.le_of_ble_eq_true rfl) rfl) rfl ?_
  refine d_st (fun hX _ => g_iload_n 11 0 (hX _) dLB_tilt_10 rfl rfl) rfl ?_
  refine d_st (fun hX _ => g_bipush 13 (hX _) 9 dLB_tilt_11 rfl kc_b_9) rfl ?_
  refine d_ifN (fun hX _ => g_icmp_le 21 16 (hX _) dLB_tilt_13 (by decide) rfl) (fun _ => ?_) (fun _ => ?_)
  · refine d_st (fun hX _ => g_iload_n 22 0 (hX _) dLB_tilt_21 rfl rfl) rfl ?_
    refine d_st (fun hX _ => g_bipush 24 (hX _) (-9) dLB_tilt_22 rfl kc_b_m9) rfl ?_
    refine d_ifN (fun hX _ => g_icmp_ge 32 27 (hX _) dLB_tilt_24 (by decide) rfl) (fun _ => ?_) (fun _ => ?_)
    · refine d_st (fun hX _ => g_iload_n 33 0 (hX _) dLB_tilt_32 rfl rfl) rfl ?_
      exact d_iret rfl rfl dLB_tilt_33
    · refine d_st (fun hX _ => g_bipush 29 (hX _) (-9) dLB_tilt_27 rfl kc_b_m9) rfl ?_
      refine d_st (fun hX _ => g_goto 33 (hX _) dLB_tilt_29 (by decide)) rfl ?_
      exact d_iret rfl rfl dLB_tilt_33
  · refine d_st (fun hX _ => g_bipush 18 (hX _) 9 dLB_tilt_16 rfl kc_b_9) rfl ?_
    refine d_st (fun hX _ => g_goto 33 (hX _) dLB_tilt_18 (by decide)) rfl ?_
    exact d_iret rfl rfl dLB_tilt_33
set_option maxRecDepth 100000 in
set_option maxHeartbeats 4000000 in
theorem k_LB_height (l : Launch) (g : kG) (N : Nat) (M : kMem) (a0 : Nat) (x1 : Int32) : kMetD l g yLB_height cLB_height 2 (some .int) 7 [.ref a0, .int x1] M (fun r : Int32 × kMem => (some (.int r.1), r.2)) (F_LB_height N M a0 x1) := by
  refine k_ofD (lv := [(0, .ref a0), (1, .int x1)]) RLB (by decide) rfl rfl (Nat.le_of_ble_eq_true rfl) ?_
  unfold F_LB_height
  refine d_st (fun hX _ => g_iload_n 1 1 (hX _) dLB_height_0 rfl rfl) rfl ?_
  refine d_st (fun hX _ => g_aload_n 2 0 (hX _) dLB_height_1 rfl rfl) rfl ?_
  refine d_callV 5 (k_LB_tilt l g N M a0) lk_LB_tilt (ci := 31) (T := TLB) (N := 5) rfl (Nat.le_of_ble_eq_true rfl) q_1732 (fun s args ht => ht _ q_1734) (by decide) rfl (Nat.le_of_ble_eq_true rfl) dLB_height_2 rfl (fun r1 _ => ?_)
  show GD _ _ _ _ _ [.int r1.1, .int x1] r1.2
  refine d_st (fun hX _ => g_imul 6 (hX _) dLB_height_5 rfl) rfl ?_
  refine d_st (fun hX _ => g_ineg 7 (hX _) dLB_height_6 rfl) rfl ?_
  exact d_iret rfl rfl dLB_height_7
set_option maxRecDepth 100000 in
set_option maxHeartbeats 4000000 in
theorem k_LT_init (l : Launch) (g : kG) (N : Nat) (M : kMem) (a0 : Nat) (x1 : Int32) (x2 : Int32) (x3 : Int32) (x4 : Int32) : kMetD l g yLT_init cLT_init 5 none 2 [.ref a0, .int x1, .int x2, .int x3, .int x4] M (fun r : kMem => (none, r)) (F_LT_init N M a0 x1 x2 x3 x4) := by
  refine k_ofD (lv := [(0, .ref a0), (1, .int x1), (2, .int x2), (3, .int x3), (4, .int x4)]) RLT (by decide) rfl rfl (Nat.le_of_ble_eq_true rfl) ?_
  unfold F_LT_init
  refine d_st (fun hX _ => g_aload_n 1 0 (hX _) dLT_init_0 rfl rfl) rfl ?_
  refine d_objInit 4 q_1057 (Nat.le_of_ble_eq_true rfl) (by decide) dLT_init_1 rfl ?_
  refine d_st (fun hX _ => g_aload_n 5 0 (hX _) dLT_init_4 rfl rfl) rfl ?_
  refine d_st (fun hX _ => g_iconst 6 (hX _) 1 dLT_init_5 rfl kc_i_1) rfl ?_
  refine d_g (fun hX _ => uz_LT_7 9 (hX _) dLT_init_6 rfl) rfl ?_
  refine d_klM (fun M1 hM1 => ?_)
  refine d_st (fun hX _ => g_aload_n 10 0 (hX _) dLT_init_9 rfl rfl) rfl ?_
  refine d_st (fun hX _ => g_iload_n 11 1 (hX _) dLT_init_10 rfl rfl) rfl ?_
  refine d_stN (fun hX hn _ _ => ui_LT_13 14 (hX _) hn dLT_init_11 rfl) rfl ?_
  refine d_klM (fun M2 hM2 => ?_)
  refine d_st (fun hX _ => g_aload_n 15 0 (hX _) dLT_init_14 rfl rfl) rfl ?_
  refine d_st (fun hX _ => g_iload_n 16 2 (hX _) dLT_init_15 rfl rfl) rfl ?_
  refine d_g (fun hX _ => ui_LT_17 19 (hX _) dLT_init_16 rfl) rfl ?_
  refine d_klM (fun M3 hM3 => ?_)
  refine d_st (fun hX _ => g_aload_n 20 0 (hX _) dLT_init_19 rfl rfl) rfl ?_
  refine d_st (fun hX _ => g_iload_n 21 3 (hX _) dLT_init_20 rfl rfl) rfl ?_
  refine d_g (fun hX _ => ui_LT_20 24 (hX _) dLT_init_21 rfl) rfl ?_
  refine d_klM (fun M4 hM4 => ?_)
  refine d_st (fun hX _ => g_aload_n 25 0 (hX _) dLT_init_24 rfl rfl) rfl ?_
  refine d_st (fun hX _ => g_iload 27 4 (hX _) dLT_init_25 rfl rfl) rfl ?_
  refine d_g (fun hX _ => ui_LT_23 30 (hX _) dLT_init_27 rfl) rfl ?_
  refine d_klM (fun M5 hM5 => ?_)
  exact d_vret rfl rfl dLT_init_30
set_option maxRecDepth 100000 in
set_option maxHeartbeats 4000000 in
theorem k_LT_rises (l : Launch) (g : kG) (N : Nat) (M : kMem) (a0 : Nat) : kMetD l g yLT_rises cLT_rises 2 none 7 [.ref a0] M (fun r : kMem => (none, r)) (F_LT_rises N M a0) := by
  refine k_ofD (lv := [(0, .ref a0)]) RLT (by decide) rfl rfl (Nat.le_of_ble_eq_true rfl) ?_
  unfold F_LT_rises
  refine d_st (fun hX _ => g_aload_n 1 0 (hX _) dLT_rises_0 rfl rfl) rfl ?_
  refine d_g (fun hX _ => e_LT_26 4 (hX _) dLT_rises_1 rfl) rfl ?_
  refine d_ifN (fun hX _ => g_ifnonnull 8 7 (hX _) dLT_rises_4 (by decide) rfl) (fun _ => ?_) (fun _ => ?_)
  · refine d_st (fun hX _ => g_aload_n 9 0 (hX _) dLT_rises_8 rfl rfl) rfl ?_
    refine d_g (fun hX _ => e_LT_26 12 (hX _) dLT_rises_9 rfl) rfl ?_
    refine d_g (fun hX _ => e_LT_30 15 (hX _) dLT_rises_12 rfl) rfl ?_
    refine d_st (fun hX _ => g_aload_n 16 0 (hX _) dLT_rises_15 rfl rfl) rfl ?_
    refine d_g (fun hX _ => e_LT_36 19 (hX _) dLT_rises_16 rfl) rfl ?_
    refine d_callS 22 (k_IN_valueOf l g N M (kI M a0 4)) lk_IN_valueOf_2dffe q_1350 (by decide) rfl (Nat.le_of_ble_eq_true rfl) dLT_rises_19 rfl (fun r1 _ => ?_)
    show GD _ _ _ _ _ [.retAddr (g.1 (2000 + kBi r1.1)), .ref (kR M (kR M a0 6) 4)] r1.2
    refine d_callV 25 (k_TM_remove l g N r1.2 (kR M (kR M a0 6) 4) r1.1) lk_TM_remove (ci := 34) (T := TTM) (N := 9) rfl (Nat.le_of_ble_eq_true rfl) q_1950 (fun s args ht => ht _ q_1952) (by decide) rfl (Nat.le_of_ble_eq_true rfl) dLT_rises_22 rfl (fun r2 _ => ?_)
    show GD _ _ _ _ _ [.ref r2.1] r2.2
    refine d_g (fun hX _ => g_cast 28 (hX _) (ci := 32) (T := TLT) (N := 7) rfl (Nat.le_of_ble_eq_true rfl) q_1428 dLT_rises_25 rfl) rfl ?_
    refine d_klR (fun w3 hw3 => ?_)
    refine d_st (fun hX _ => g_astore_n 29 1 [(1, .ref w3), (0, .ref a0)] (hX _) dLT_rises_28 rfl rfl (Nat.le_of_ble_eq_true rfl) rfl) rfl ?_
    refine d_st (fun hX _ => g_aload_n 30 1 (hX _) dLT_rises_29 rfl rfl) rfl ?_
    refine d_st (fun hX _ => g_null 31 (hX _) dLT_rises_30 rfl) rfl ?_
    refine d_g (fun hX _ => ur_LT_26 34 (hX _) dLT_rises_31 rfl) rfl ?_
    refine d_klM (fun M4 hM4 => ?_)
    refine d_st (fun hX _ => g_aload_n 35 1 (hX _) dLT_rises_34 rfl rfl) rfl ?_
    refine d_st (fun hX _ => g_iconst 36 (hX _) 0 dLT_rises_35 rfl kc_i_0) rfl ?_
    refine d_g (fun hX _ => ui_LT_36 39 (hX _) dLT_rises_36 rfl) rfl ?_
    refine d_klM (fun M5 hM5 => ?_)
    exact d_vret rfl rfl dLT_rises_39
  · exact d_vret rfl rfl dLT_rises_7
set_option maxRecDepth 100000 in
set_option maxHeartbeats 4000000 in
theorem k_LT_sits (l : Launch) (g : kG) (N : Nat) (M : kMem) (a0 : Nat) (a1 : Nat) (x2 : Int32) : kMetD l g yLT_sits cLT_sits 4 none 9 [.ref a0, .ref a1, .int x2] M (fun r : kMem => (none, r)) (F_LT_sits N M a0 a1 x2) := by
  refine k_ofD (lv := [(0, .ref a0), (1, .ref a1), (2, .int x2)]) RLT (by decide) rfl rfl (Nat.le_of_ble_eq_true rfl) ?_
  unfold F_LT_sits
  refine d_st (fun hX _ => g_aload_n 1 1 (hX _) dLT_sits_0 rfl rfl) rfl ?_
  refine d_g (fun hX _ => e_LT_30 4 (hX _) dLT_sits_1 rfl) rfl ?_
  refine d_st (fun hX _ => g_iload_n 5 2 (hX _) dLT_sits_4 rfl rfl) rfl ?_
  refine d_callS 8 (k_IN_valueOf l g N M x2) lk_IN_valueOf_2dffe q_1350 (by decide) rfl (Nat.le_of_ble_eq_true rfl) dLT_sits_5 rfl (fun r1 _ => ?_)
  show GD _ _ _ _ _ [.retAddr (g.1 (2000 + kBi r1.1)), .ref (kR M a1 4)] r1.2
  refine d_st (fun hX _ => g_aload_n 9 0 (hX _) dLT_sits_8 rfl rfl) rfl ?_
  refine d_callV 12 (k_TM_put l g N r1.2 (kR M a1 4) r1.1 a0) lk_TM_put (ci := 34) (T := TTM) (N := 9) rfl (Nat.le_of_ble_eq_true rfl) q_1351 (fun s args ht => ht _ q_1353) (by decide) rfl (Nat.le_of_ble_eq_true rfl) dLT_sits_9 rfl (fun r2 _ => ?_)
  show GD _ _ _ _ _ [.ref r2.1] r2.2
  refine d_g (fun hX _ => g_cast 15 (hX _) (ci := 32) (T := TLT) (N := 7) rfl (Nat.le_of_ble_eq_true rfl) q_1428 dLT_sits_12 rfl) rfl ?_
  refine d_klR (fun w3 hw3 => ?_)
  refine d_st (fun hX _ => g_astore_n 16 3 [(3, .ref w3), (0, .ref a0), (1, .ref a1), (2, .int x2)] (hX _) dLT_sits_15 rfl rfl (Nat.le_of_ble_eq_true rfl) rfl) rfl ?_
  refine d_st (fun hX _ => g_aload_n 17 1 (hX _) dLT_sits_16 rfl rfl) rfl ?_
  refine d_st (fun hX _ => g_aload_n 18 2 (hX _) dLT_sits_17 rfl rfl) rfl ?_
  refine d_g (fun hX _ => ur_LT_26 21 (hX _) dLT_sits_18 rfl) rfl ?_
  refine d_klM (fun M4 hM4 => ?_)
  refine d_st (fun hX _ => g_aload_n 22 1 (hX _) dLT_sits_21 rfl rfl) rfl ?_
  refine d_st (fun hX _ => g_iload_n 23 3 (hX _) dLT_sits_22 rfl rfl) rfl ?_
  refine d_g (fun hX _ => ui_LT_36 26 (hX _) dLT_sits_23 rfl) rfl ?_
  refine d_klM (fun M5 hM5 => ?_)
  exact d_vret rfl rfl dLT_sits_26
set_option maxRecDepth 100000 in
set_option maxHeartbeats 4000000 in
theorem k_L_init (l : Launch) (g : kG) (N : Nat) (M : kMem) (a0 : Nat) : kMetD l g yL_init cL_init 1 none 5 [.ref a0] M (fun r : kMem => (none, r)) (F_L_init N M a0) := by
  refine k_ofD (lv := [(0, .ref a0)]) RL (by decide) rfl rfl (Nat.le_of_ble_eq_true rfl) ?_
  unfold F_L_init
  refine d_st (fun hX _ => g_aload_n 1 0 (hX _) dL_init_0 rfl rfl) rfl ?_
  refine d_objInit 4 q_669 (Nat.le_of_ble_eq_true rfl) (by decide) dL_init_1 rfl ?_
  refine d_st (fun hX _ => g_aload_n 5 0 (hX _) dL_init_4 rfl rfl) rfl ?_
  refine dn_AL 8 q_670 dL_init_5 rfl ?_
  refine d_klR (fun w1 hw1 => ?_)
  refine d_klM (fun M2 hM2 => ?_)
  refine d_st (fun hX _ => g_dup 9 (hX _) dL_init_8 rfl rfl) rfl ?_
  refine d_callI 12 (k_AL_init l g N M2 w1) lk_AL_init_da8c8 q_672 rfl (by decide) rfl (Nat.le_of_ble_eq_true rfl) dL_init_9 rfl (fun r3 _ => ?_)
  show GD _ _ _ _ _ [.ref w1, .ref a0] r3
  refine d_stN (fun hX hn _ _ => ur_L_10 15 (hX _) hn dL_init_12 rfl) rfl ?_
  refine d_klM (fun M4 hM4 => ?_)
  refine d_st (fun hX _ => g_aload_n 16 0 (hX _) dL_init_15 rfl rfl) rfl ?_
  refine dn_AL 19 q_670 dL_init_16 rfl ?_
  refine d_klR (fun w5 hw5 => ?_)
  refine d_klM (fun M6 hM6 => ?_)
  refine d_st (fun hX _ => g_dup 20 (hX _) dL_init_19 rfl rfl) rfl ?_
  refine d_callI 23 (k_AL_init l g N M6 w5) lk_AL_init_da8c8 q_672 rfl (by decide) rfl (Nat.le_of_ble_eq_true rfl) dL_init_20 rfl (fun r7 _ => ?_)
  show GD _ _ _ _ _ [.ref w5, .ref a0] r7
  refine d_stN (fun hX hn _ _ => ur_L_16 26 (hX _) hn dL_init_23 rfl) rfl ?_
  refine d_klM (fun M8 hM8 => ?_)
  exact d_vret rfl rfl dL_init_26
set_option maxRecDepth 100000 in
set_option maxHeartbeats 4000000 in
theorem k_L_draw (l : Launch) (g : kG) (N : Nat) (M : kMem) (a0 : Nat) (x1 : Int32) : kMetD l g yL_draw cL_draw 2 (some .int) 2 [.ref a0, .int x1] M (fun r : Int32 × kMem => (some (.int r.1), r.2)) (F_L_draw N M a0 x1) := by
  refine k_ofD (lv := [(0, .ref a0), (1, .int x1)]) RL (by decide) rfl rfl (Nat.le_of_ble_eq_true rfl) ?_
  unfold F_L_draw
  refine d_st (fun hX _ => g_aload_n 1 0 (hX _) dL_draw_0 rfl rfl) rfl ?_
  refine d_st (fun hX _ => g_iconst 2 (hX _) 0 dL_draw_1 rfl kc_i_0) rfl ?_
  refine d_st (fun hX _ => g_aload_n 3 0 (hX _) dL_draw_2 rfl rfl) rfl ?_
  refine d_st (fun hX _ => g_iconst 4 (hX _) 0 dL_draw_3 rfl kc_i_0) rfl ?_
  refine d_g (fun hX _ => g_iald 5 (hX _) dL_draw_4 rfl) rfl ?_
  refine d_st (fun hX _ => g_ldc 7 (hX _) 1664525 dL_draw_5 rfl q_739) rfl ?_
  refine d_st (fun hX _ => g_imul 8 (hX _) dL_draw_7 rfl) rfl ?_
  refine d_st (fun hX _ => g_ldc 10 (hX _) 1013904223 dL_draw_8 rfl q_740) rfl ?_
  refine d_st (fun hX _ => g_iadd 11 (hX _) dL_draw_10 rfl) rfl ?_
  refine d_g (fun hX _ => g_iast 12 (hX _) dL_draw_11 rfl) rfl ?_
  refine d_klM (fun M1 hM1 => ?_)
  refine d_st (fun hX _ => g_aload_n 13 0 (hX _) dL_draw_12 rfl rfl) rfl ?_
  refine d_st (fun hX _ => g_iconst 14 (hX _) 0 dL_draw_13 rfl kc_i_0) rfl ?_
  refine d_g (fun hX _ => g_iald 15 (hX _) dL_draw_14 rfl) rfl ?_
  refine d_st (fun hX _ => g_bipush 17 (hX _) 8 dL_draw_15 rfl kc_b_8) rfl ?_
  refine d_st (fun hX _ => g_iushr 18 (hX _) (((kI M1 a0 (kx 0)).toUInt32 >>> ((8 : Int32).toUInt32 &&& Int32.toUInt32 31)).toInt32) dL_draw_17 rfl rfl) rfl ?_
  refine d_st (fun hX _ => g_iload_n 19 1 (hX _) dL_draw_18 rfl rfl) rfl ?_
  refine d_g (fun hX _ => g_irem 20 (hX _) dL_draw_19 rfl) rfl ?_
  exact d_iret rfl rfl dL_draw_20
set_option maxRecDepth 100000 in
set_option maxHeartbeats 4000000 in
theorem k_L_price (l : Launch) (g : kG) (N : Nat) (M : kMem) (a0 : Nat) (a1 : Nat) (x2 : Int32) : kMetD l g yL_price cL_price 3 (some .int) 8 [.ref a0, .ref a1, .int x2] M (fun r : Int32 × kMem => (some (.int r.1), r.2)) (F_L_price N M a0 a1 x2) := by
  refine k_ofD (lv := [(0, .ref a0), (1, .ref a1), (2, .int x2)]) RL (by decide) rfl rfl (Nat.le_of_ble_eq_true rfl) ?_
  unfold F_L_price
  refine d_st (fun hX _ => g_aload_n 1 0 (hX _) dL_price_0 rfl rfl) rfl ?_
  refine d_g (fun hX _ => e_L_41 4 (hX _) dL_price_1 rfl) rfl ?_
  refine d_st (fun hX _ => g_iload_n 5 2 (hX _) dL_price_4 rfl rfl) rfl ?_
  refine d_stR (fun hX _ hRc hRs => g_mabs (y := 0) 8 (hX _) q_1432 dL_price_5 rfl (Nat.le_of_ble_eq_true rfl) (by decide) hRc hRs) rfl ?_
  refine d_st (fun hX _ => g_iadd 9 (hX _) dL_price_8 rfl) rfl ?_
  refine d_st (fun hX _ => g_iconst 10 (hX _) 0 dL_price_9 rfl kc_i_0) rfl ?_
  refine d_st (fun hX _ => g_aload_n 11 1 (hX _) dL_price_10 rfl rfl) rfl ?_
  refine d_st (fun hX _ => g_iload_n 12 2 (hX _) dL_price_11 rfl rfl) rfl ?_
  refine d_callV 15 (k_LB_height l g N M a1 x2) lk_LB_height (ci := 31) (T := TLB) (N := 5) rfl (Nat.le_of_ble_eq_true rfl) q_1728 (fun s args ht => ht _ q_1730) (by decide) rfl (Nat.le_of_ble_eq_true rfl) dL_price_12 rfl (fun r1 _ => ?_)
  show GD _ _ _ _ _ [.int r1.1, .int 0, .int ((kI M a0 3) + (kabs x2))] r1.2
  refine d_stR (fun hX _ hRc hRs => g_mmax 18 (hX _) q_1914 dL_price_15 rfl (Nat.le_of_ble_eq_true rfl) (by decide) hRc hRs) rfl ?_
  refine d_st (fun hX _ => g_iadd 19 (hX _) dL_price_18 rfl) rfl ?_
  exact d_iret rfl rfl dL_price_19
set_option maxRecDepth 100000 in
set_option maxHeartbeats 4000000 in
theorem k_L_earns_42 {l : Launch} {g : kG} {L0 : Nat} (N : Nat) : ∀ (M : kMem) (a0 : Nat) (a1 : Nat) (y0 : Int32), GD (l, cL_earns, 4, RL, g, 8, L0, none, yL_earns.name) (fun r : kMem => (none, r)) (F_L_earns_42 N M a0 a1 y0) 42 [(0, .ref a0), (1, .ref a1)] [.int y0] M := by
  intro M a0 a1 y0
  unfold F_L_earns_42
  refine d_st (fun hX _ => g_istore_n 43 3 [(3, .int y0), (0, .ref a0), (1, .ref a1)] (hX _) dL_earns_42 rfl rfl (Nat.le_of_ble_eq_true rfl) rfl) rfl ?_
  refine d_st (fun hX _ => g_aload_n 44 2 (hX _) dL_earns_43 rfl rfl) rfl ?_
  refine d_st (fun hX _ => g_dup 45 (hX _) dL_earns_44 rfl rfl) rfl ?_
  refine d_g (fun hX _ => e_L_77 48 (hX _) dL_earns_45 rfl) rfl ?_
  refine d_st (fun hX _ => g_iload_n 49 0 (hX _) dL_earns_48 rfl rfl) rfl ?_
  refine d_st (fun hX _ => g_iadd 50 (hX _) dL_earns_49 rfl) rfl ?_
  refine d_g (fun hX _ => ui_L_77 53 (hX _) dL_earns_50 rfl) rfl ?_
  refine d_klM (fun M3 hM3 => ?_)
  refine d_st (fun hX _ => g_aload_n 54 1 (hX _) dL_earns_53 rfl rfl) rfl ?_
  refine d_st (fun hX _ => g_dup 55 (hX _) dL_earns_54 rfl rfl) rfl ?_
  refine d_g (fun hX _ => e_L_71 58 (hX _) dL_earns_55 rfl) rfl ?_
  refine d_st (fun hX _ => g_iload_n 59 0 (hX _) dL_earns_58 rfl rfl) rfl ?_
  refine d_st (fun hX _ => g_isub 60 (hX _) dL_earns_59 rfl) rfl ?_
  refine d_g (fun hX _ => ui_L_71 63 (hX _) dL_earns_60 rfl) rfl ?_
  refine d_klM (fun M4 hM4 => ?_)
  exact d_vret rfl rfl dL_earns_63
set_option maxRecDepth 100000 in
set_option maxHeartbeats 4000000 in
theorem k_L_earns (l : Launch) (g : kG) (N : Nat) (M : kMem) (a0 : Nat) (a1 : Nat) : kMetD l g yL_earns cL_earns 4 none 8 [.ref a0, .ref a1] M (fun r : kMem => (none, r)) (F_L_earns N M a0 a1) := by
  refine k_ofD (lv := [(0, .ref a0), (1, .ref a1)]) RL (by decide) rfl rfl (Nat.le_of_ble_eq_true rfl) ?_
  unfold F_L_earns
  refine d_st (fun hX _ => g_aload_n 1 0 (hX _) dL_earns_0 rfl rfl) rfl ?_
  refine d_g (fun hX _ => e_L_59 4 (hX _) dL_earns_1 rfl) rfl ?_
  refine d_st (fun hX _ => g_aload_n 5 1 (hX _) dL_earns_4 rfl rfl) rfl ?_
  refine d_g (fun hX _ => e_L_62 8 (hX _) dL_earns_5 rfl) rfl ?_
  refine d_st (fun hX _ => g_aload_n 9 1 (hX _) dL_earns_8 rfl rfl) rfl ?_
  refine d_g (fun hX _ => e_L_68 12 (hX _) dL_earns_9 rfl) rfl ?_
  refine d_callV 15 (k_LB_height l g N M (kR M a1 6) (kI M a1 4)) lk_LB_height (ci := 31) (T := TLB) (N := 5) rfl (Nat.le_of_ble_eq_true rfl) q_1728 (fun s args ht => ht _ q_1730) (by decide) rfl (Nat.le_of_ble_eq_true rfl) dL_earns_12 rfl (fun r1 _ => ?_)
  show GD _ _ _ _ _ [.int r1.1, .int (kI M a0 2)] r1.2
  refine d_st (fun hX _ => g_iadd 16 (hX _) dL_earns_15 rfl) rfl ?_
  refine d_klI (fun v2 hv2 => ?_)
  refine d_st (fun hX _ => g_istore_n 17 2 [(2, .int v2), (0, .ref a0), (1, .ref a1)] (hX _) dL_earns_16 rfl rfl (Nat.le_of_ble_eq_true rfl) rfl) rfl ?_
  refine d_st (fun hX _ => g_iload_n 18 0 (hX _) dL_earns_17 rfl rfl) rfl ?_
  refine d_ifN (fun hX _ => g_if_le 32 21 (hX _) dL_earns_18 (by decide) rfl) (fun _ => ?_) (fun _ => ?_)
  · refine d_st (fun hX _ => g_iload_n 33 0 (hX _) dL_earns_32 rfl rfl) rfl ?_
    refine d_st (fun hX _ => g_ineg 34 (hX _) dL_earns_33 rfl) rfl ?_
    refine d_st (fun hX _ => g_aload_n 35 2 (hX _) dL_earns_34 rfl rfl) rfl ?_
    refine d_g (fun hX _ => e_L_77 38 (hX _) dL_earns_35 rfl) rfl ?_
    refine d_stR (fun hX _ hRc hRs => g_mmin 41 (hX _) q_1945 dL_earns_38 rfl (Nat.le_of_ble_eq_true rfl) (by decide) hRc hRs) rfl ?_
    refine d_st (fun hX _ => g_ineg 42 (hX _) dL_earns_41 rfl) rfl ?_
    refine d_st (fun hX _ => g_lv [1, 2] rfl) rfl ?_
    exact k_L_earns_42 N r1.2 a0 a1 (-(kmin (-v2) (kI r1.2 a1 2)))
  · refine d_st (fun hX _ => g_iload_n 22 0 (hX _) dL_earns_21 rfl rfl) rfl ?_
    refine d_st (fun hX _ => g_aload_n 23 1 (hX _) dL_earns_22 rfl rfl) rfl ?_
    refine d_g (fun hX _ => e_L_71 26 (hX _) dL_earns_23 rfl) rfl ?_
    refine d_stR (fun hX _ hRc hRs => g_mmin 29 (hX _) q_1945 dL_earns_26 rfl (Nat.le_of_ble_eq_true rfl) (by decide) hRc hRs) rfl ?_
    refine d_st (fun hX _ => g_goto 42 (hX _) dL_earns_29 (by decide)) rfl ?_
    refine d_st (fun hX _ => g_lv [1, 2] rfl) rfl ?_
    exact k_L_earns_42 N r1.2 a0 a1 (kmin v2 (kI r1.2 a0 7))
set_option maxRecDepth 100000 in
set_option maxHeartbeats 4000000 in
theorem k_L_pays (l : Launch) (g : kG) (N : Nat) (M : kMem) (a0 : Nat) (a1 : Nat) (x2 : Int32) : kMetD l g yL_pays cL_pays 4 none 2 [.ref a0, .ref a1, .int x2] M (fun r : kMem => (none, r)) (F_L_pays N M a0 a1 x2) := by
  refine k_ofD (lv := [(0, .ref a0), (1, .ref a1), (2, .int x2)]) RL (by decide) rfl rfl (Nat.le_of_ble_eq_true rfl) ?_
  unfold F_L_pays
  refine d_st (fun hX _ => g_iload_n 1 2 (hX _) dL_pays_0 rfl rfl) rfl ?_
  refine d_st (fun hX _ => g_aload_n 2 1 (hX _) dL_pays_1 rfl rfl) rfl ?_
  refine d_g (fun hX _ => e_L_77 5 (hX _) dL_pays_2 rfl) rfl ?_
  refine d_stR (fun hX _ hRc hRs => g_mmin 8 (hX _) q_1945 dL_pays_5 rfl (Nat.le_of_ble_eq_true rfl) (by decide) hRc hRs) rfl ?_
  refine d_klI (fun v1 hv1 => ?_)
  refine d_st (fun hX _ => g_istore_n 9 3 [(3, .int v1), (0, .ref a0), (1, .ref a1), (2, .int x2)] (hX _) dL_pays_8 rfl rfl (Nat.le_of_ble_eq_true rfl) rfl) rfl ?_
  refine d_st (fun hX _ => g_aload_n 10 2 (hX _) dL_pays_9 rfl rfl) rfl ?_
  refine d_st (fun hX _ => g_dup 11 (hX _) dL_pays_10 rfl rfl) rfl ?_
  refine d_g (fun hX _ => e_L_77 14 (hX _) dL_pays_11 rfl) rfl ?_
  refine d_st (fun hX _ => g_iload_n 15 0 (hX _) dL_pays_14 rfl rfl) rfl ?_
  refine d_st (fun hX _ => g_isub 16 (hX _) dL_pays_15 rfl) rfl ?_
  refine d_g (fun hX _ => ui_L_77 19 (hX _) dL_pays_16 rfl) rfl ?_
  refine d_klM (fun M2 hM2 => ?_)
  refine d_st (fun hX _ => g_aload_n 20 1 (hX _) dL_pays_19 rfl rfl) rfl ?_
  refine d_st (fun hX _ => g_dup 21 (hX _) dL_pays_20 rfl rfl) rfl ?_
  refine d_g (fun hX _ => e_L_71 24 (hX _) dL_pays_21 rfl) rfl ?_
  refine d_st (fun hX _ => g_iload_n 25 0 (hX _) dL_pays_24 rfl rfl) rfl ?_
  refine d_st (fun hX _ => g_iadd 26 (hX _) dL_pays_25 rfl) rfl ?_
  refine d_g (fun hX _ => ui_L_71 29 (hX _) dL_pays_26 rfl) rfl ?_
  refine d_klM (fun M3 hM3 => ?_)
  exact d_vret rfl rfl dL_pays_29
set_option maxRecDepth 100000 in
set_option maxHeartbeats 4000000 in
theorem k_L_passes_236 {l : Launch} {g : kG} {L0 : Nat} (N : Nat) (k155 : kMem → Nat → Int32 → Int32 → Option (Int32 × kMem)) (k182 : kMem → Nat → Int32 → Int32 → Nat → Option (Int32 × kMem)) (h155 : ∀ (M : kMem) (a0 : Nat) (x1 : Int32) (x2 : Int32), GD (l, cL_passes, 5, RL, g, 9, L0, (some .int), yL_passes.name) (fun r : Int32 × kMem => (some (.int r.1), r.2)) (k155 M a0 x1 x2) 155 [(0, .ref a0), (1, .int x1), (2, .int x2)] [] M) (h182 : ∀ (M : kMem) (a0 : Nat) (x1 : Int32) (x2 : Int32) (a3 : Nat), GD (l, cL_passes, 5, RL, g, 9, L0, (some .int), yL_passes.name) (fun r : Int32 × kMem => (some (.int r.1), r.2)) (k182 M a0 x1 x2 a3) 182 [(0, .ref a0), (1, .int x1), (2, .int x2), (3, .ref a3)] [] M) : ∀ (M : kMem) (a0 : Nat) (x1 : Int32) (x2 : Int32) (a3 : Nat) (y0 : Nat), GD (l, cL_passes, 5, RL, g, 9, L0, (some .int), yL_passes.name) (fun r : Int32 × kMem => (some (.int r.1), r.2)) (F_L_passes_236 N k155 k182 M a0 x1 x2 a3 y0) 236 [(0, .ref a0), (1, .int x1), (2, .int x2), (3, .ref a3)] [.ref y0] M := by
  intro M a0 x1 x2 a3 y0
  unfold F_L_passes_236
  refine d_st (fun hX _ => g_astore 238 4 [(4, .ref y0), (0, .ref a0), (1, .int x1), (2, .int x2), (3, .ref a3)] (hX _) dL_passes_236 rfl (Nat.le_of_ble_eq_true rfl) rfl) rfl ?_
  refine d_st (fun hX _ => g_aload 240 0 (hX _) dL_passes_238 rfl rfl) rfl ?_
  refine d_callV 243 (k_LT_rises l g N M y0) lk_LT_rises (ci := 32) (T := TLT) (N := 7) rfl (Nat.le_of_ble_eq_true rfl) q_1946 (fun s args ht => ht _ q_1948) (by decide) rfl (Nat.le_of_ble_eq_true rfl) dL_passes_240 rfl (fun r12 _ => ?_)
  show GD _ _ _ _ _ [] r12
  refine d_st (fun hX _ => g_aload_n 244 1 (hX _) dL_passes_243 rfl rfl) rfl ?_
  refine d_st (fun hX _ => g_aload 246 0 (hX _) dL_passes_244 rfl rfl) rfl ?_
  refine d_st (fun hX _ => g_aload_n 247 1 (hX _) dL_passes_246 rfl rfl) rfl ?_
  refine d_g (fun hX _ => e_L_141 250 (hX _) dL_passes_247 rfl) rfl ?_
  refine d_callV 253 (k_L_pays l g N r12 a0 y0 (kI r12 a0 6)) lk_L_pays (ci := 30) (T := TL) (N := 12) rfl (Nat.le_of_ble_eq_true rfl) q_1941 (fun s args ht => ht _ q_27) (by decide) rfl (Nat.le_of_ble_eq_true rfl) dL_passes_250 rfl (fun r13 _ => ?_)
  show GD _ _ _ _ _ [] r13
  refine d_st (fun hX _ => g_aload_n 254 1 (hX _) dL_passes_253 rfl rfl) rfl ?_
  refine d_st (fun hX _ => g_dup 255 (hX _) dL_passes_254 rfl rfl) rfl ?_
  refine d_g (fun hX _ => e_L_83 258 (hX _) dL_passes_255 rfl) rfl ?_
  refine d_st (fun hX _ => g_iconst 259 (hX _) 1 dL_passes_258 rfl kc_i_1) rfl ?_
  refine d_st (fun hX _ => g_iadd 260 (hX _) dL_passes_259 rfl) rfl ?_
  refine d_g (fun hX _ => ui_L_83 263 (hX _) dL_passes_260 rfl) rfl ?_
  refine d_klM (fun M14 hM14 => ?_)
  refine d_st (fun hX _ => g_goto 182 (hX _) dL_passes_263 (by decide)) rfl ?_
  refine d_st (fun hX _ => g_lv [1, 2, 3, 4] rfl) rfl ?_
  exact h182 M14 a0 x1 x2 a3
set_option maxRecDepth 100000 in
set_option maxHeartbeats 4000000 in
theorem k_L_passes_182 {l : Launch} {g : kG} {L0 : Nat} (N : Nat) (k155 : kMem → Nat → Int32 → Int32 → Option (Int32 × kMem)) (h155 : ∀ (M : kMem) (a0 : Nat) (x1 : Int32) (x2 : Int32), GD (l, cL_passes, 5, RL, g, 9, L0, (some .int), yL_passes.name) (fun r : Int32 × kMem => (some (.int r.1), r.2)) (k155 M a0 x1 x2) 155 [(0, .ref a0), (1, .int x1), (2, .int x2)] [] M) : ∀ (n : Nat) (M : kMem) (a0 : Nat) (x1 : Int32) (x2 : Int32) (a3 : Nat), GD (l, cL_passes, 5, RL, g, 9, L0, (some .int), yL_passes.name) (fun r : Int32 × kMem => (some (.int r.1), r.2)) (F_L_passes_182 N k155 n M a0 x1 x2 a3) 182 [(0, .ref a0), (1, .int x1), (2, .int x2), (3, .ref a3)] [] M := by
  intro n
  induction n with
  | zero => intro _ _ _ _ _; exact d_none
  | succ n ih =>
    intro M a0 x1 x2 a3
    unfold F_L_passes_182
    refine d_st (fun hX _ => g_aload_n 183 3 (hX _) dL_passes_182 rfl rfl) rfl ?_
    refine d_callV 186 (k_LB_torque l g N M a3) lk_LB_torque (ci := 31) (T := TLB) (N := 5) rfl (Nat.le_of_ble_eq_true rfl) q_1870 (fun s args ht => ht _ q_1738) (by decide) rfl (Nat.le_of_ble_eq_true rfl) dL_passes_183 rfl (fun r7 _ => ?_)
    show GD _ _ _ _ _ [.int r7.1] r7.2
    refine d_stR (fun hX _ hRc hRs => g_mabs (y := 0) 189 (hX _) q_1432 dL_passes_186 rfl (Nat.le_of_ble_eq_true rfl) (by decide) hRc hRs) rfl ?_
    refine d_st (fun hX _ => g_aload_n 190 3 (hX _) dL_passes_189 rfl rfl) rfl ?_
    refine d_g (fun hX _ => e_L_119 193 (hX _) dL_passes_190 rfl) rfl ?_
    refine d_ifN (fun hX _ => g_icmp_le 266 196 (hX _) dL_passes_193 (by decide) rfl) (fun _ => ?_) (fun _ => ?_)
    · refine d_kl (fun v8 hv8 => ?_)
      refine d_st (fun hX _ => g_iinc 269 2 2 v8 [(2, .int v8), (0, .ref a0), (1, .int x1), (3, .ref a3)] (hX _) dL_passes_266 rfl rfl (by rw [hv8, kc_i_1]) (Nat.le_of_ble_eq_true rfl) rfl) rfl ?_
      refine d_st (fun hX _ => g_goto 155 (hX _) dL_passes_269 (by decide)) rfl ?_
      refine d_st (fun hX _ => g_lv [1, 2, 0] rfl) rfl ?_
      exact h155 r7.2 a0 x1 v8
    · refine d_st (fun hX _ => g_aload_n 197 3 (hX _) dL_passes_196 rfl rfl) rfl ?_
      refine d_callV 200 (k_LB_torque l g N r7.2 a3) lk_LB_torque (ci := 31) (T := TLB) (N := 5) rfl (Nat.le_of_ble_eq_true rfl) q_1870 (fun s args ht => ht _ q_1738) (by decide) rfl (Nat.le_of_ble_eq_true rfl) dL_passes_197 rfl (fun r9 _ => ?_)
      show GD _ _ _ _ _ [.int r9.1] r9.2
      refine d_ifN (fun hX _ => g_if_le 221 203 (hX _) dL_passes_200 (by decide) rfl) (fun _ => ?_) (fun _ => ?_)
      · refine d_st (fun hX _ => g_aload_n 222 3 (hX _) dL_passes_221 rfl rfl) rfl ?_
        refine d_g (fun hX _ => e_L_122 225 (hX _) dL_passes_222 rfl) rfl ?_
        refine d_callV 228 (k_TM_firstEntry l g N r9.2 (kR r9.2 a3 4)) lk_TM_firstEntry (ci := 34) (T := TTM) (N := 9) rfl (Nat.le_of_ble_eq_true rfl) q_2115 (fun s args ht => ht _ q_2117) (by decide) rfl (Nat.le_of_ble_eq_true rfl) dL_passes_225 rfl (fun r10 _ => ?_)
        show GD _ _ _ _ _ [.ref r10.1] r10.2
        refine d_callF 233 (k_SE_getValue l g N r10.2 r10.1) lk_SE_getValue (ci := 38) (T := TSE) (N := 2) rfl (Nat.le_of_ble_eq_true rfl) q_2114 q_2096 (by decide +kernel) (by decide +kernel) (by decide) rfl (Nat.le_of_ble_eq_true rfl) dL_passes_228 rfl (fun r11 _ => ?_)
        show GD _ _ _ _ _ [.ref r11] r10.2
        refine d_g (fun hX _ => g_cast 236 (hX _) (ci := 32) (T := TLT) (N := 7) rfl (Nat.le_of_ble_eq_true rfl) q_1052 dL_passes_233 rfl) rfl ?_
        exact k_L_passes_236 N k155 (fun M a0 x1 x2 a3 => F_L_passes_182 N k155 n M a0 x1 x2 a3) h155 ih r10.2 a0 x1 x2 a3 r11
      · refine d_st (fun hX _ => g_aload_n 204 3 (hX _) dL_passes_203 rfl rfl) rfl ?_
        refine d_g (fun hX _ => e_L_122 207 (hX _) dL_passes_204 rfl) rfl ?_
        refine d_callV 210 (k_TM_lastEntry l g N r9.2 (kR r9.2 a3 4)) lk_TM_lastEntry (ci := 34) (T := TTM) (N := 9) rfl (Nat.le_of_ble_eq_true rfl) q_2059 (fun s args ht => ht _ q_2061) (by decide) rfl (Nat.le_of_ble_eq_true rfl) dL_passes_207 rfl (fun r15 _ => ?_)
        show GD _ _ _ _ _ [.ref r15.1] r15.2
        refine d_callF 215 (k_SE_getValue l g N r15.2 r15.1) lk_SE_getValue (ci := 38) (T := TSE) (N := 2) rfl (Nat.le_of_ble_eq_true rfl) q_2114 q_2096 (by decide +kernel) (by decide +kernel) (by decide) rfl (Nat.le_of_ble_eq_true rfl) dL_passes_210 rfl (fun r16 _ => ?_)
        show GD _ _ _ _ _ [.ref r16] r15.2
        refine d_g (fun hX _ => g_cast 218 (hX _) (ci := 32) (T := TLT) (N := 7) rfl (Nat.le_of_ble_eq_true rfl) q_1052 dL_passes_215 rfl) rfl ?_
        refine d_st (fun hX _ => g_goto 236 (hX _) dL_passes_218 (by decide)) rfl ?_
        exact k_L_passes_236 N k155 (fun M a0 x1 x2 a3 => F_L_passes_182 N k155 n M a0 x1 x2 a3) h155 ih r15.2 a0 x1 x2 a3 r16
set_option maxRecDepth 100000 in
set_option maxHeartbeats 4000000 in
theorem k_L_passes_155 {l : Launch} {g : kG} {L0 : Nat} (N : Nat) : ∀ (n : Nat) (M : kMem) (a0 : Nat) (x1 : Int32) (x2 : Int32), GD (l, cL_passes, 5, RL, g, 9, L0, (some .int), yL_passes.name) (fun r : Int32 × kMem => (some (.int r.1), r.2)) (F_L_passes_155 N n M a0 x1 x2) 155 [(0, .ref a0), (1, .int x1), (2, .int x2)] [] M := by
  intro n
  induction n with
  | zero => intro _ _ _ _; exact d_none
  | succ n ih =>
    intro M a0 x1 x2
    unfold F_L_passes_155
    refine d_st (fun hX _ => g_iload_n 156 2 (hX _) dL_passes_155 rfl rfl) rfl ?_
    refine d_st (fun hX _ => g_aload_n 157 0 (hX _) dL_passes_156 rfl rfl) rfl ?_
    refine d_g (fun hX _ => e_L_10 160 (hX _) dL_passes_157 rfl) rfl ?_
    refine d_callF 165 (k_AL_size l g N M (kR M a0 0)) lk_AL_size_8abf5 (ci := 33) (T := TAL) (N := 3) rfl (Nat.le_of_ble_eq_true rfl) q_916 q_920 (by decide +kernel) (by decide +kernel) (by decide) rfl (Nat.le_of_ble_eq_true rfl) dL_passes_160 rfl (fun r5 _ => ?_)
    show GD _ _ _ _ _ [.int r5, .int x2] M
    refine d_ifN (fun hX _ => g_icmp_ge 272 168 (hX _) dL_passes_165 (by decide) rfl) (fun _ => ?_) (fun _ => ?_)
    · refine d_st (fun hX _ => g_aload_n 273 0 (hX _) dL_passes_272 rfl rfl) rfl ?_
      refine d_g (fun hX _ => e_L_83 276 (hX _) dL_passes_273 rfl) rfl ?_
      refine d_st (fun hX _ => g_iload_n 277 1 (hX _) dL_passes_276 rfl rfl) rfl ?_
      refine d_st (fun hX _ => g_isub 278 (hX _) dL_passes_277 rfl) rfl ?_
      exact d_iret rfl rfl dL_passes_278
    · refine d_st (fun hX _ => g_aload_n 169 0 (hX _) dL_passes_168 rfl rfl) rfl ?_
      refine d_g (fun hX _ => e_L_10 172 (hX _) dL_passes_169 rfl) rfl ?_
      refine d_st (fun hX _ => g_iload_n 173 2 (hX _) dL_passes_172 rfl rfl) rfl ?_
      refine d_callF 178 (k_AL_get l g N M (kR M a0 0) x2) lk_AL_get_915e3 (ci := 33) (T := TAL) (N := 3) rfl (Nat.le_of_ble_eq_true rfl) q_1091 q_1094 (by decide +kernel) (by decide +kernel) (by decide) rfl (Nat.le_of_ble_eq_true rfl) dL_passes_173 rfl (fun r6 _ => ?_)
      show GD _ _ _ _ _ [.ref r6] M
      refine d_g (fun hX _ => g_cast 181 (hX _) (ci := 31) (T := TLB) (N := 5) rfl (Nat.le_of_ble_eq_true rfl) q_913 dL_passes_178 rfl) rfl ?_
      refine d_st (fun hX _ => g_astore_n 182 3 [(3, .ref r6), (0, .ref a0), (1, .int x1), (2, .int x2)] (hX _) dL_passes_181 rfl rfl (Nat.le_of_ble_eq_true rfl) rfl) rfl ?_
      refine d_st (fun hX _ => g_lv [1, 2, 3, 0] rfl) rfl ?_
      exact k_L_passes_182 N (fun M a0 x1 x2 => F_L_passes_155 N n M a0 x1 x2) ih N M a0 x1 x2 r6
set_option maxRecDepth 100000 in
set_option maxHeartbeats 4000000 in
theorem k_L_passes_74 {l : Launch} {g : kG} {L0 : Nat} (N : Nat) : ∀ (n : Nat) (M : kMem) (a0 : Nat) (x1 : Int32) (x2 : Int32), GD (l, cL_passes, 5, RL, g, 9, L0, (some .int), yL_passes.name) (fun r : Int32 × kMem => (some (.int r.1), r.2)) (F_L_passes_74 N n M a0 x1 x2) 74 [(0, .ref a0), (1, .int x1), (2, .int x2)] [] M := by
  intro n
  induction n with
  | zero => intro _ _ _ _; exact d_none
  | succ n ih =>
    intro M a0 x1 x2
    unfold F_L_passes_74
    refine d_st (fun hX _ => g_iload_n 75 2 (hX _) dL_passes_74 rfl rfl) rfl ?_
    refine d_st (fun hX _ => g_aload_n 76 0 (hX _) dL_passes_75 rfl rfl) rfl ?_
    refine d_g (fun hX _ => e_L_16 79 (hX _) dL_passes_76 rfl) rfl ?_
    refine d_callF 84 (k_AL_size l g N M (kR M a0 1)) lk_AL_size_8abf5 (ci := 33) (T := TAL) (N := 3) rfl (Nat.le_of_ble_eq_true rfl) q_916 q_920 (by decide +kernel) (by decide +kernel) (by decide) rfl (Nat.le_of_ble_eq_true rfl) dL_passes_79 rfl (fun r4 _ => ?_)
    show GD _ _ _ _ _ [.int r4, .int x2] M
    refine d_ifN (fun hX _ => g_icmp_ge 153 87 (hX _) dL_passes_84 (by decide) rfl) (fun _ => ?_) (fun _ => ?_)
    · refine d_st (fun hX _ => g_iconst 154 (hX _) 0 dL_passes_153 rfl kc_i_0) rfl ?_
      refine d_st (fun hX _ => g_istore_n 155 2 [(2, .int 0), (0, .ref a0), (1, .int x1)] (hX _) dL_passes_154 rfl rfl (Nat.le_of_ble_eq_true rfl) rfl) rfl ?_
      refine d_st (fun hX _ => g_lv [1, 2, 0] rfl) rfl ?_
      exact k_L_passes_155 N N M a0 x1 0
    · refine d_st (fun hX _ => g_aload_n 88 0 (hX _) dL_passes_87 rfl rfl) rfl ?_
      refine d_g (fun hX _ => e_L_16 91 (hX _) dL_passes_88 rfl) rfl ?_
      refine d_st (fun hX _ => g_iload_n 92 2 (hX _) dL_passes_91 rfl rfl) rfl ?_
      refine d_callF 97 (k_AL_get l g N M (kR M a0 1) x2) lk_AL_get_915e3 (ci := 33) (T := TAL) (N := 3) rfl (Nat.le_of_ble_eq_true rfl) q_1091 q_1094 (by decide +kernel) (by decide +kernel) (by decide) rfl (Nat.le_of_ble_eq_true rfl) dL_passes_92 rfl (fun r17 _ => ?_)
      show GD _ _ _ _ _ [.ref r17] M
      refine d_g (fun hX _ => g_cast 100 (hX _) (ci := 32) (T := TLT) (N := 7) rfl (Nat.le_of_ble_eq_true rfl) q_1052 dL_passes_97 rfl) rfl ?_
      refine d_st (fun hX _ => g_astore_n 101 3 [(3, .ref r17), (0, .ref a0), (1, .int x1), (2, .int x2)] (hX _) dL_passes_100 rfl rfl (Nat.le_of_ble_eq_true rfl) rfl) rfl ?_
      refine d_st (fun hX _ => g_aload_n 102 0 (hX _) dL_passes_101 rfl rfl) rfl ?_
      refine d_g (fun hX _ => e_L_99 105 (hX _) dL_passes_102 rfl) rfl ?_
      refine d_if (fun hX _ => g_if_eq 147 108 (hX _) dL_passes_105 (by decide) rfl) (fun _ => ?_) (fun _ => ?_)
      · refine d_kl (fun v18 hv18 => ?_)
        refine d_st (fun hX _ => g_iinc 150 2 3 v18 [(2, .int v18), (3, .ref r17), (0, .ref a0), (1, .int x1)] (hX _) dL_passes_147 rfl rfl (by rw [hv18, kc_i_1]) (Nat.le_of_ble_eq_true rfl) rfl) rfl ?_
        refine d_st (fun hX _ => g_goto 74 (hX _) dL_passes_150 (by decide)) rfl ?_
        refine d_st (fun hX _ => g_lv [2, 3, 0] rfl) rfl ?_
        exact ih M a0 x1 v18
      · refine d_st (fun hX _ => g_aload_n 109 0 (hX _) dL_passes_108 rfl rfl) rfl ?_
        refine d_st (fun hX _ => g_dup 110 (hX _) dL_passes_109 rfl rfl) rfl ?_
        refine d_g (fun hX _ => e_L_103 113 (hX _) dL_passes_110 rfl) rfl ?_
        refine d_st (fun hX _ => g_iconst 114 (hX _) 1 dL_passes_113 rfl kc_i_1) rfl ?_
        refine d_st (fun hX _ => g_iadd 115 (hX _) dL_passes_114 rfl) rfl ?_
        refine d_st (fun hX _ => g_dup_x1 116 (hX _) dL_passes_115 rfl rfl rfl) rfl ?_
        refine d_g (fun hX _ => ui_L_103 119 (hX _) dL_passes_116 rfl) rfl ?_
        refine d_klM (fun M19 hM19 => ?_)
        refine d_st (fun hX _ => g_aload_n 120 1 (hX _) dL_passes_119 rfl rfl) rfl ?_
        refine d_g (fun hX _ => e_L_106 123 (hX _) dL_passes_120 rfl) rfl ?_
        refine d_if (fun hX _ => g_icmp_gt 129 126 (hX _) dL_passes_123 (by decide) rfl) (fun _ => ?_) (fun _ => ?_)
        · refine d_st (fun hX _ => g_aload_n 130 0 (hX _) dL_passes_129 rfl rfl) rfl ?_
          refine d_callV 133 (k_LT_rises l g N M19 r17) lk_LT_rises (ci := 32) (T := TLT) (N := 7) rfl (Nat.le_of_ble_eq_true rfl) q_1946 (fun s args ht => ht _ q_1948) (by decide) rfl (Nat.le_of_ble_eq_true rfl) dL_passes_130 rfl (fun r20 _ => ?_)
          show GD _ _ _ _ _ [] r20
          refine d_st (fun hX _ => g_aload_n 134 1 (hX _) dL_passes_133 rfl rfl) rfl ?_
          refine d_st (fun hX _ => g_aload_n 135 0 (hX _) dL_passes_134 rfl rfl) rfl ?_
          refine d_st (fun hX _ => g_aload_n 136 0 (hX _) dL_passes_135 rfl rfl) rfl ?_
          refine d_g (fun hX _ => e_L_77 139 (hX _) dL_passes_136 rfl) rfl ?_
          refine d_callV 142 (k_L_pays l g N r20 a0 r17 (kI r20 r17 2)) lk_L_pays (ci := 30) (T := TL) (N := 12) rfl (Nat.le_of_ble_eq_true rfl) q_1941 (fun s args ht => ht _ q_27) (by decide) rfl (Nat.le_of_ble_eq_true rfl) dL_passes_139 rfl (fun r21 _ => ?_)
          show GD _ _ _ _ _ [] r21
          refine d_st (fun hX _ => g_aload_n 143 0 (hX _) dL_passes_142 rfl rfl) rfl ?_
          refine d_st (fun hX _ => g_iconst 144 (hX _) 0 dL_passes_143 rfl kc_i_0) rfl ?_
          refine d_g (fun hX _ => uz_L_99 147 (hX _) dL_passes_144 rfl) rfl ?_
          refine d_klM (fun M22 hM22 => ?_)
          refine d_kl (fun v23 hv23 => ?_)
          refine d_st (fun hX _ => g_iinc 150 2 3 v23 [(2, .int v23), (3, .ref r17), (0, .ref a0), (1, .int x1)] (hX _) dL_passes_147 rfl rfl (by rw [hv23, kc_i_1]) (Nat.le_of_ble_eq_true rfl) rfl) rfl ?_
          refine d_st (fun hX _ => g_goto 74 (hX _) dL_passes_150 (by decide)) rfl ?_
          refine d_st (fun hX _ => g_lv [2, 3, 0] rfl) rfl ?_
          exact ih M22 a0 x1 v23
        · refine d_st (fun hX _ => g_goto 147 (hX _) dL_passes_126 (by decide)) rfl ?_
          refine d_kl (fun v24 hv24 => ?_)
          refine d_st (fun hX _ => g_iinc 150 2 3 v24 [(2, .int v24), (3, .ref r17), (0, .ref a0), (1, .int x1)] (hX _) dL_passes_147 rfl rfl (by rw [hv24, kc_i_1]) (Nat.le_of_ble_eq_true rfl) rfl) rfl ?_
          refine d_st (fun hX _ => g_goto 74 (hX _) dL_passes_150 (by decide)) rfl ?_
          refine d_st (fun hX _ => g_lv [2, 3, 0] rfl) rfl ?_
          exact ih M19 a0 x1 v24
set_option maxRecDepth 100000 in
set_option maxHeartbeats 4000000 in
theorem k_L_passes_17 {l : Launch} {g : kG} {L0 : Nat} (N : Nat) : ∀ (n : Nat) (M : kMem) (a0 : Nat) (x1 : Int32) (x2 : Int32), GD (l, cL_passes, 5, RL, g, 9, L0, (some .int), yL_passes.name) (fun r : Int32 × kMem => (some (.int r.1), r.2)) (F_L_passes_17 N n M a0 x1 x2) 17 [(0, .ref a0), (1, .int x1), (2, .int x2)] [] M := by
  intro n
  induction n with
  | zero => intro _ _ _ _; exact d_none
  | succ n ih =>
    intro M a0 x1 x2
    unfold F_L_passes_17
    refine d_st (fun hX _ => g_iload_n 18 2 (hX _) dL_passes_17 rfl rfl) rfl ?_
    refine d_st (fun hX _ => g_aload_n 19 0 (hX _) dL_passes_18 rfl rfl) rfl ?_
    refine d_g (fun hX _ => e_L_16 22 (hX _) dL_passes_19 rfl) rfl ?_
    refine d_callF 27 (k_AL_size l g N M (kR M a0 1)) lk_AL_size_8abf5 (ci := 33) (T := TAL) (N := 3) rfl (Nat.le_of_ble_eq_true rfl) q_916 q_920 (by decide +kernel) (by decide +kernel) (by decide) rfl (Nat.le_of_ble_eq_true rfl) dL_passes_22 rfl (fun r3 _ => ?_)
    show GD _ _ _ _ _ [.int r3, .int x2] M
    refine d_ifN (fun hX _ => g_icmp_ge 72 30 (hX _) dL_passes_27 (by decide) rfl) (fun _ => ?_) (fun _ => ?_)
    · refine d_st (fun hX _ => g_iconst 73 (hX _) 0 dL_passes_72 rfl kc_i_0) rfl ?_
      refine d_st (fun hX _ => g_istore_n 74 2 [(2, .int 0), (0, .ref a0), (1, .int x1)] (hX _) dL_passes_73 rfl rfl (Nat.le_of_ble_eq_true rfl) rfl) rfl ?_
      refine d_st (fun hX _ => g_lv [1, 2, 0] rfl) rfl ?_
      exact k_L_passes_74 N N M a0 x1 0
    · refine d_st (fun hX _ => g_aload_n 31 0 (hX _) dL_passes_30 rfl rfl) rfl ?_
      refine d_g (fun hX _ => e_L_16 34 (hX _) dL_passes_31 rfl) rfl ?_
      refine d_st (fun hX _ => g_iload_n 35 2 (hX _) dL_passes_34 rfl rfl) rfl ?_
      refine d_callF 40 (k_AL_get l g N M (kR M a0 1) x2) lk_AL_get_915e3 (ci := 33) (T := TAL) (N := 3) rfl (Nat.le_of_ble_eq_true rfl) q_1091 q_1094 (by decide +kernel) (by decide +kernel) (by decide) rfl (Nat.le_of_ble_eq_true rfl) dL_passes_35 rfl (fun r25 _ => ?_)
      show GD _ _ _ _ _ [.ref r25] M
      refine d_g (fun hX _ => g_cast 43 (hX _) (ci := 32) (T := TLT) (N := 7) rfl (Nat.le_of_ble_eq_true rfl) q_1052 dL_passes_40 rfl) rfl ?_
      refine d_g (fun hX _ => e_L_62 46 (hX _) dL_passes_43 rfl) rfl ?_
      refine d_if (fun hX _ => g_ifnull 66 49 (hX _) dL_passes_46 (by decide) rfl) (fun _ => ?_) (fun _ => ?_)
      · refine d_kl (fun v26 hv26 => ?_)
        refine d_st (fun hX _ => g_iinc 69 2 2 v26 [(2, .int v26), (0, .ref a0), (1, .int x1)] (hX _) dL_passes_66 rfl rfl (by rw [hv26, kc_i_1]) (Nat.le_of_ble_eq_true rfl) rfl) rfl ?_
        refine d_st (fun hX _ => g_goto 17 (hX _) dL_passes_69 (by decide)) rfl ?_
        refine d_st (fun hX _ => g_lv [1, 2, 0] rfl) rfl ?_
        exact ih M a0 x1 v26
      · refine d_st (fun hX _ => g_aload_n 50 0 (hX _) dL_passes_49 rfl rfl) rfl ?_
        refine d_st (fun hX _ => g_aload_n 51 0 (hX _) dL_passes_50 rfl rfl) rfl ?_
        refine d_g (fun hX _ => e_L_16 54 (hX _) dL_passes_51 rfl) rfl ?_
        refine d_st (fun hX _ => g_iload_n 55 2 (hX _) dL_passes_54 rfl rfl) rfl ?_
        refine d_callF 60 (k_AL_get l g N M (kR M a0 1) x2) lk_AL_get_915e3 (ci := 33) (T := TAL) (N := 3) rfl (Nat.le_of_ble_eq_true rfl) q_1091 q_1094 (by decide +kernel) (by decide +kernel) (by decide) rfl (Nat.le_of_ble_eq_true rfl) dL_passes_55 rfl (fun r27 _ => ?_)
        show GD _ _ _ _ _ [.ref r27, .ref a0] M
        refine d_g (fun hX _ => g_cast 63 (hX _) (ci := 32) (T := TLT) (N := 7) rfl (Nat.le_of_ble_eq_true rfl) q_1052 dL_passes_60 rfl) rfl ?_
        refine d_callV 66 (k_L_earns l g N M a0 r27) lk_L_earns (ci := 30) (T := TL) (N := 12) rfl (Nat.le_of_ble_eq_true rfl) q_2055 (fun s args ht => ht _ q_34) (by decide) rfl (Nat.le_of_ble_eq_true rfl) dL_passes_63 rfl (fun r28 _ => ?_)
        show GD _ _ _ _ _ [] r28
        refine d_kl (fun v29 hv29 => ?_)
        refine d_st (fun hX _ => g_iinc 69 2 2 v29 [(2, .int v29), (0, .ref a0), (1, .int x1)] (hX _) dL_passes_66 rfl rfl (by rw [hv29, kc_i_1]) (Nat.le_of_ble_eq_true rfl) rfl) rfl ?_
        refine d_st (fun hX _ => g_goto 17 (hX _) dL_passes_69 (by decide)) rfl ?_
        refine d_st (fun hX _ => g_lv [1, 2, 0] rfl) rfl ?_
        exact ih r28 a0 x1 v29
set_option maxRecDepth 100000 in
set_option maxHeartbeats 4000000 in
theorem k_L_passes (l : Launch) (g : kG) (N : Nat) (M : kMem) (a0 : Nat) : kMetD l g yL_passes cL_passes 5 (some .int) 9 [.ref a0] M (fun r : Int32 × kMem => (some (.int r.1), r.2)) (F_L_passes N M a0) := by
  refine k_ofD (lv := [(0, .ref a0)]) RL (by decide) rfl rfl (Nat.le_of_ble_eq_true rfl) ?_
  unfold F_L_passes
  refine d_st (fun hX _ => g_aload_n 1 0 (hX _) dL_passes_0 rfl rfl) rfl ?_
  refine d_st (fun hX _ => g_dup 2 (hX _) dL_passes_1 rfl rfl) rfl ?_
  refine d_g (fun hX _ => e_L_80 5 (hX _) dL_passes_2 rfl) rfl ?_
  refine d_st (fun hX _ => g_iconst 6 (hX _) 1 dL_passes_5 rfl kc_i_1) rfl ?_
  refine d_st (fun hX _ => g_iadd 7 (hX _) dL_passes_6 rfl) rfl ?_
  refine d_g (fun hX _ => ui_L_80 10 (hX _) dL_passes_7 rfl) rfl ?_
  refine d_klM (fun M1 hM1 => ?_)
  refine d_st (fun hX _ => g_aload_n 11 0 (hX _) dL_passes_10 rfl rfl) rfl ?_
  refine d_g (fun hX _ => e_L_83 14 (hX _) dL_passes_11 rfl) rfl ?_
  refine d_klI (fun v2 hv2 => ?_)
  refine d_st (fun hX _ => g_istore_n 15 1 [(1, .int v2), (0, .ref a0)] (hX _) dL_passes_14 rfl rfl (Nat.le_of_ble_eq_true rfl) rfl) rfl ?_
  refine d_st (fun hX _ => g_iconst 16 (hX _) 0 dL_passes_15 rfl kc_i_0) rfl ?_
  refine d_st (fun hX _ => g_istore_n 17 2 [(2, .int 0), (1, .int v2), (0, .ref a0)] (hX _) dL_passes_16 rfl rfl (Nat.le_of_ble_eq_true rfl) rfl) rfl ?_
  refine d_st (fun hX _ => g_lv [2, 1, 0] rfl) rfl ?_
  exact k_L_passes_17 N N M1 a0 v2 0
set_option maxRecDepth 100000 in
set_option maxHeartbeats 4000000 in
theorem k_L_against (l : Launch) (g : kG) (N : Nat) (M : kMem) (a0 : Nat) (a1 : Nat) (a2 : Nat) (x3 : Int32) : kMetD l g yL_against cL_against 5 (some .int) 9 [.ref a0, .ref a1, .ref a2, .int x3] M (fun r : Int32 × kMem => (some (.int r.1), r.2)) (F_L_against N M a0 a1 a2 x3) := by
  refine k_ofD (lv := [(0, .ref a0), (1, .ref a1), (2, .ref a2), (3, .int x3)]) RL (by decide) rfl rfl (Nat.le_of_ble_eq_true rfl) ?_
  unfold F_L_against
  refine d_st (fun hX _ => g_aload_n 1 1 (hX _) dL_against_0 rfl rfl) rfl ?_
  refine d_g (fun hX _ => e_L_99 4 (hX _) dL_against_1 rfl) rfl ?_
  refine d_ifN (fun hX _ => g_if_ne 9 7 (hX _) dL_against_4 (by decide) rfl) (fun _ => ?_) (fun _ => ?_)
  · refine d_st (fun hX _ => g_aload_n 10 2 (hX _) dL_against_9 rfl rfl) rfl ?_
    refine d_g (fun hX _ => e_L_122 13 (hX _) dL_against_10 rfl) rfl ?_
    refine d_st (fun hX _ => g_iload_n 14 3 (hX _) dL_against_13 rfl rfl) rfl ?_
    refine d_callS 17 (k_IN_valueOf l g N M x3) lk_IN_valueOf_2dffe q_1110 (by decide) rfl (Nat.le_of_ble_eq_true rfl) dL_against_14 rfl (fun r1 _ => ?_)
    show GD _ _ _ _ _ [.retAddr (g.1 (2000 + kBi r1.1)), .ref (kR M a2 4)] r1.2
    refine d_callV 20 (k_TM_containsKey l g N r1.2 (kR M a2 4) r1.1) lk_TM_containsKey (ci := 34) (T := TTM) (N := 9) rfl (Nat.le_of_ble_eq_true rfl) q_1130 (fun s args ht => ht _ q_1132) (by decide) rfl (Nat.le_of_ble_eq_true rfl) dL_against_17 rfl (fun r2 _ => ?_)
    show GD _ _ _ _ _ [.int r2] r1.2
    refine d_if (fun hX _ => g_if_eq 25 23 (hX _) dL_against_20 (by decide) rfl) (fun _ => ?_) (fun _ => ?_)
    · refine d_st (fun hX _ => g_aload_n 26 1 (hX _) dL_against_25 rfl rfl) rfl ?_
      refine d_g (fun hX _ => e_L_77 29 (hX _) dL_against_26 rfl) rfl ?_
      refine d_st (fun hX _ => g_aload_n 30 0 (hX _) dL_against_29 rfl rfl) rfl ?_
      refine d_st (fun hX _ => g_aload_n 31 2 (hX _) dL_against_30 rfl rfl) rfl ?_
      refine d_st (fun hX _ => g_iload_n 32 3 (hX _) dL_against_31 rfl rfl) rfl ?_
      refine d_callV 35 (k_L_price l g N r1.2 a0 a2 x3) lk_L_price (ci := 30) (T := TL) (N := 12) rfl (Nat.le_of_ble_eq_true rfl) q_1910 (fun s args ht => ht _ q_24) (by decide) rfl (Nat.le_of_ble_eq_true rfl) dL_against_32 rfl (fun r3 _ => ?_)
      show GD _ _ _ _ _ [.int r3.1, .int (kI r1.2 a1 2)] r3.2
      refine d_ifN (fun hX _ => g_icmp_ge 40 38 (hX _) dL_against_35 (by decide) rfl) (fun _ => ?_) (fun _ => ?_)
      · refine d_st (fun hX _ => g_aload_n 41 2 (hX _) dL_against_40 rfl rfl) rfl ?_
        refine d_callV 44 (k_LB_torque l g N r3.2 a2) lk_LB_torque (ci := 31) (T := TLB) (N := 5) rfl (Nat.le_of_ble_eq_true rfl) q_1870 (fun s args ht => ht _ q_1738) (by decide) rfl (Nat.le_of_ble_eq_true rfl) dL_against_41 rfl (fun r4 _ => ?_)
        show GD _ _ _ _ _ [.int r4.1] r4.2
        refine d_st (fun hX _ => g_iload_n 45 3 (hX _) dL_against_44 rfl rfl) rfl ?_
        refine d_st (fun hX _ => g_aload_n 46 1 (hX _) dL_against_45 rfl rfl) rfl ?_
        refine d_g (fun hX _ => e_L_158 49 (hX _) dL_against_46 rfl) rfl ?_
        refine d_st (fun hX _ => g_imul 50 (hX _) dL_against_49 rfl) rfl ?_
        refine d_st (fun hX _ => g_iadd 51 (hX _) dL_against_50 rfl) rfl ?_
        refine d_st (fun hX _ => g_aload_n 52 1 (hX _) dL_against_51 rfl rfl) rfl ?_
        refine d_g (fun hX _ => e_L_62 55 (hX _) dL_against_52 rfl) rfl ?_
        refine d_st (fun hX _ => g_aload_n 56 2 (hX _) dL_against_55 rfl rfl) rfl ?_
        refine d_ifN (fun hX _ => g_acmp_ne 71 59 (hX _) dL_against_56 (by decide) rfl) (fun _ => ?_) (fun _ => ?_)
        · refine d_st (fun hX _ => g_iconst 72 (hX _) 0 dL_against_71 rfl kc_i_0) rfl ?_
          refine d_st (fun hX _ => g_isub 73 (hX _) dL_against_72 rfl) rfl ?_
          refine d_klI (fun v5 hv5 => ?_)
          refine d_st (fun hX _ => g_istore 75 4 [(4, .int v5), (0, .ref a0), (1, .ref a1), (2, .ref a2), (3, .int x3)] (hX _) dL_against_73 rfl (Nat.le_of_ble_eq_true rfl) rfl) rfl ?_
          refine d_st (fun hX _ => g_iload 77 0 (hX _) dL_against_75 rfl rfl) rfl ?_
          refine d_stR (fun hX _ hRc hRs => g_mabs (y := 0) 80 (hX _) q_1432 dL_against_77 rfl (Nat.le_of_ble_eq_true rfl) (by decide) hRc hRs) rfl ?_
          refine d_st (fun hX _ => g_aload_n 81 3 (hX _) dL_against_80 rfl rfl) rfl ?_
          refine d_g (fun hX _ => e_L_119 84 (hX _) dL_against_81 rfl) rfl ?_
          refine d_ifN (fun hX _ => g_icmp_le 91 87 (hX _) dL_against_84 (by decide) rfl) (fun _ => ?_) (fun _ => ?_)
          · refine d_st (fun hX _ => g_iconst 92 (hX _) 0 dL_against_91 rfl kc_i_0) rfl ?_
            exact d_iret rfl rfl dL_against_92
          · refine d_st (fun hX _ => g_iconst 88 (hX _) 4 dL_against_87 rfl kc_i_4) rfl ?_
            refine d_st (fun hX _ => g_goto 92 (hX _) dL_against_88 (by decide)) rfl ?_
            exact d_iret rfl rfl dL_against_92
        · refine d_st (fun hX _ => g_aload_n 60 1 (hX _) dL_against_59 rfl rfl) rfl ?_
          refine d_g (fun hX _ => e_L_68 63 (hX _) dL_against_60 rfl) rfl ?_
          refine d_st (fun hX _ => g_aload_n 64 1 (hX _) dL_against_63 rfl rfl) rfl ?_
          refine d_g (fun hX _ => e_L_158 67 (hX _) dL_against_64 rfl) rfl ?_
          refine d_st (fun hX _ => g_imul 68 (hX _) dL_against_67 rfl) rfl ?_
          refine d_st (fun hX _ => g_goto 72 (hX _) dL_against_68 (by decide)) rfl ?_
          refine d_st (fun hX _ => g_isub 73 (hX _) dL_against_72 rfl) rfl ?_
          refine d_klI (fun v6 hv6 => ?_)
          refine d_st (fun hX _ => g_istore 75 4 [(4, .int v6), (0, .ref a0), (1, .ref a1), (2, .ref a2), (3, .int x3)] (hX _) dL_against_73 rfl (Nat.le_of_ble_eq_true rfl) rfl) rfl ?_
          refine d_st (fun hX _ => g_iload 77 0 (hX _) dL_against_75 rfl rfl) rfl ?_
          refine d_stR (fun hX _ hRc hRs => g_mabs (y := 0) 80 (hX _) q_1432 dL_against_77 rfl (Nat.le_of_ble_eq_true rfl) (by decide) hRc hRs) rfl ?_
          refine d_st (fun hX _ => g_aload_n 81 3 (hX _) dL_against_80 rfl rfl) rfl ?_
          refine d_g (fun hX _ => e_L_119 84 (hX _) dL_against_81 rfl) rfl ?_
          refine d_ifN (fun hX _ => g_icmp_le 91 87 (hX _) dL_against_84 (by decide) rfl) (fun _ => ?_) (fun _ => ?_)
          · refine d_st (fun hX _ => g_iconst 92 (hX _) 0 dL_against_91 rfl kc_i_0) rfl ?_
            exact d_iret rfl rfl dL_against_92
          · refine d_st (fun hX _ => g_iconst 88 (hX _) 4 dL_against_87 rfl kc_i_4) rfl ?_
            refine d_st (fun hX _ => g_goto 92 (hX _) dL_against_88 (by decide)) rfl ?_
            exact d_iret rfl rfl dL_against_92
      · refine d_st (fun hX _ => g_iconst 39 (hX _) 3 dL_against_38 rfl kc_i_3) rfl ?_
        exact d_iret rfl rfl dL_against_39
    · refine d_st (fun hX _ => g_iconst 24 (hX _) 2 dL_against_23 rfl kc_i_2) rfl ?_
      exact d_iret rfl rfl dL_against_24
  · refine d_st (fun hX _ => g_iconst 8 (hX _) 1 dL_against_7 rfl kc_i_1) rfl ?_
    exact d_iret rfl rfl dL_against_8
set_option maxRecDepth 100000 in
set_option maxHeartbeats 4000000 in
theorem k_L_unit (l : Launch) (g : kG) (N : Nat) (M : kMem) (a0 : Nat) (a1 : Nat) (a2 : Nat) : kMetD l g yL_unit cL_unit 3 (some .int) 8 [.ref a0, .ref a1, .ref a2] M (fun r : Int32 × kMem => (some (.int r.1), r.2)) (F_L_unit N M a0 a1 a2) := by
  refine k_ofD (lv := [(0, .ref a0), (1, .ref a1), (2, .ref a2)]) RL (by decide) rfl rfl (Nat.le_of_ble_eq_true rfl) ?_
  unfold F_L_unit
  refine d_st (fun hX _ => g_iconst 1 (hX _) 1 dL_unit_0 rfl kc_i_1) rfl ?_
  refine d_st (fun hX _ => g_aload_n 2 0 (hX _) dL_unit_1 rfl rfl) rfl ?_
  refine d_g (fun hX _ => e_L_165 5 (hX _) dL_unit_2 rfl) rfl ?_
  refine d_st (fun hX _ => g_aload_n 6 2 (hX _) dL_unit_5 rfl rfl) rfl ?_
  refine d_g (fun hX _ => e_L_62 9 (hX _) dL_unit_6 rfl) rfl ?_
  refine d_st (fun hX _ => g_aload_n 10 2 (hX _) dL_unit_9 rfl rfl) rfl ?_
  refine d_g (fun hX _ => e_L_68 13 (hX _) dL_unit_10 rfl) rfl ?_
  refine d_callV 16 (k_LB_height l g N M (kR M a2 6) (kI M a2 4)) lk_LB_height (ci := 31) (T := TLB) (N := 5) rfl (Nat.le_of_ble_eq_true rfl) q_1728 (fun s args ht => ht _ q_1730) (by decide) rfl (Nat.le_of_ble_eq_true rfl) dL_unit_13 rfl (fun r1 _ => ?_)
  show GD _ _ _ _ _ [.int r1.1, .int (kI M a0 4), .int 1] r1.2
  refine d_st (fun hX _ => g_iadd 17 (hX _) dL_unit_16 rfl) rfl ?_
  refine d_st (fun hX _ => g_aload_n 18 1 (hX _) dL_unit_17 rfl rfl) rfl ?_
  refine d_g (fun hX _ => e_L_62 21 (hX _) dL_unit_18 rfl) rfl ?_
  refine d_st (fun hX _ => g_aload_n 22 1 (hX _) dL_unit_21 rfl rfl) rfl ?_
  refine d_g (fun hX _ => e_L_68 25 (hX _) dL_unit_22 rfl) rfl ?_
  refine d_callV 28 (k_LB_height l g N r1.2 (kR r1.2 a1 6) (kI r1.2 a1 4)) lk_LB_height (ci := 31) (T := TLB) (N := 5) rfl (Nat.le_of_ble_eq_true rfl) q_1728 (fun s args ht => ht _ q_1730) (by decide) rfl (Nat.le_of_ble_eq_true rfl) dL_unit_25 rfl (fun r2 _ => ?_)
  show GD _ _ _ _ _ [.int r2.1, .int ((kI M a0 4) + r1.1), .int 1] r2.2
  refine d_st (fun hX _ => g_isub 29 (hX _) dL_unit_28 rfl) rfl ?_
  refine d_stR (fun hX _ hRc hRs => g_mmax 32 (hX _) q_1914 dL_unit_29 rfl (Nat.le_of_ble_eq_true rfl) (by decide) hRc hRs) rfl ?_
  exact d_iret rfl rfl dL_unit_32
set_option maxRecDepth 100000 in
set_option maxHeartbeats 4000000 in
theorem k_L_more (l : Launch) (g : kG) (N : Nat) (M : kMem) (a0 : Nat) (a1 : Nat) : kMetD l g yL_more cL_more 2 (some .int) 8 [.ref a0, .ref a1] M (fun r : Int32 × kMem => (some (.int r.1), r.2)) (F_L_more N M a0 a1) := by
  refine k_ofD (lv := [(0, .ref a0), (1, .ref a1)]) RL (by decide) rfl rfl (Nat.le_of_ble_eq_true rfl) ?_
  unfold F_L_more
  refine d_st (fun hX _ => g_aload_n 1 1 (hX _) dL_more_0 rfl rfl) rfl ?_
  refine d_g (fun hX _ => e_L_62 4 (hX _) dL_more_1 rfl) rfl ?_
  refine d_st (fun hX _ => g_aload_n 5 1 (hX _) dL_more_4 rfl rfl) rfl ?_
  refine d_g (fun hX _ => e_L_68 8 (hX _) dL_more_5 rfl) rfl ?_
  refine d_callV 11 (k_LB_height l g N M (kR M a1 6) (kI M a1 4)) lk_LB_height (ci := 31) (T := TLB) (N := 5) rfl (Nat.le_of_ble_eq_true rfl) q_1728 (fun s args ht => ht _ q_1730) (by decide) rfl (Nat.le_of_ble_eq_true rfl) dL_more_8 rfl (fun r1 _ => ?_)
  show GD _ _ _ _ _ [.int r1.1] r1.2
  refine d_st (fun hX _ => g_aload_n 12 0 (hX _) dL_more_11 rfl rfl) rfl ?_
  refine d_g (fun hX _ => e_L_62 15 (hX _) dL_more_12 rfl) rfl ?_
  refine d_st (fun hX _ => g_aload_n 16 0 (hX _) dL_more_15 rfl rfl) rfl ?_
  refine d_g (fun hX _ => e_L_68 19 (hX _) dL_more_16 rfl) rfl ?_
  refine d_callV 22 (k_LB_height l g N r1.2 (kR r1.2 a0 6) (kI r1.2 a0 4)) lk_LB_height (ci := 31) (T := TLB) (N := 5) rfl (Nat.le_of_ble_eq_true rfl) q_1728 (fun s args ht => ht _ q_1730) (by decide) rfl (Nat.le_of_ble_eq_true rfl) dL_more_19 rfl (fun r2 _ => ?_)
  show GD _ _ _ _ _ [.int r2.1, .int r1.1] r2.2
  refine d_st (fun hX _ => g_isub 23 (hX _) dL_more_22 rfl) rfl ?_
  exact d_iret rfl rfl dL_more_23
set_option maxRecDepth 100000 in
set_option maxHeartbeats 4000000 in
theorem k_L_exchange (l : Launch) (g : kG) (N : Nat) (M : kMem) (a0 : Nat) (a1 : Nat) : kMetD l g yL_exchange cL_exchange 6 none 10 [.ref a0, .ref a1] M (fun r : kMem => (none, r)) (F_L_exchange N M a0 a1) := by
  refine k_ofD (lv := [(0, .ref a0), (1, .ref a1)]) RL (by decide) rfl rfl (Nat.le_of_ble_eq_true rfl) ?_
  unfold F_L_exchange
  refine d_st (fun hX _ => g_aload_n 1 0 (hX _) dL_exchange_0 rfl rfl) rfl ?_
  refine d_g (fun hX _ => e_L_62 4 (hX _) dL_exchange_1 rfl) rfl ?_
  refine d_klR (fun w1 hw1 => ?_)
  refine d_st (fun hX _ => g_astore_n 5 2 [(2, .ref w1), (0, .ref a0), (1, .ref a1)] (hX _) dL_exchange_4 rfl rfl (Nat.le_of_ble_eq_true rfl) rfl) rfl ?_
  refine d_st (fun hX _ => g_aload_n 6 1 (hX _) dL_exchange_5 rfl rfl) rfl ?_
  refine d_g (fun hX _ => e_L_68 9 (hX _) dL_exchange_6 rfl) rfl ?_
  refine d_klI (fun v2 hv2 => ?_)
  refine d_st (fun hX _ => g_istore_n 10 3 [(3, .int v2), (2, .ref w1), (0, .ref a0), (1, .ref a1)] (hX _) dL_exchange_9 rfl rfl (Nat.le_of_ble_eq_true rfl) rfl) rfl ?_
  refine d_st (fun hX _ => g_aload_n 11 3 (hX _) dL_exchange_10 rfl rfl) rfl ?_
  refine d_g (fun hX _ => e_L_62 14 (hX _) dL_exchange_11 rfl) rfl ?_
  refine d_klR (fun w3 hw3 => ?_)
  refine d_st (fun hX _ => g_astore 16 4 [(4, .ref w3), (3, .int v2), (2, .ref w1), (0, .ref a0), (1, .ref a1)] (hX _) dL_exchange_14 rfl (Nat.le_of_ble_eq_true rfl) rfl) rfl ?_
  refine d_st (fun hX _ => g_aload_n 17 4 (hX _) dL_exchange_16 rfl rfl) rfl ?_
  refine d_g (fun hX _ => e_L_68 20 (hX _) dL_exchange_17 rfl) rfl ?_
  refine d_klI (fun v4 hv4 => ?_)
  refine d_st (fun hX _ => g_istore 22 5 [(5, .int v4), (4, .ref w3), (3, .int v2), (2, .ref w1), (0, .ref a0), (1, .ref a1)] (hX _) dL_exchange_20 rfl (Nat.le_of_ble_eq_true rfl) rfl) rfl ?_
  refine d_st (fun hX _ => g_aload_n 23 4 (hX _) dL_exchange_22 rfl rfl) rfl ?_
  refine d_callV 26 (k_LT_rises l g N M a0) lk_LT_rises (ci := 32) (T := TLT) (N := 7) rfl (Nat.le_of_ble_eq_true rfl) q_1946 (fun s args ht => ht _ q_1948) (by decide) rfl (Nat.le_of_ble_eq_true rfl) dL_exchange_23 rfl (fun r5 _ => ?_)
  show GD _ _ _ _ _ [] r5
  refine d_st (fun hX _ => g_aload_n 27 5 (hX _) dL_exchange_26 rfl rfl) rfl ?_
  refine d_callV 30 (k_LT_rises l g N r5 a1) lk_LT_rises (ci := 32) (T := TLT) (N := 7) rfl (Nat.le_of_ble_eq_true rfl) q_1946 (fun s args ht => ht _ q_1948) (by decide) rfl (Nat.le_of_ble_eq_true rfl) dL_exchange_27 rfl (fun r6 _ => ?_)
  show GD _ _ _ _ _ [] r6
  refine d_st (fun hX _ => g_aload_n 31 4 (hX _) dL_exchange_30 rfl rfl) rfl ?_
  refine d_st (fun hX _ => g_aload 33 1 (hX _) dL_exchange_31 rfl rfl) rfl ?_
  refine d_st (fun hX _ => g_iload 35 0 (hX _) dL_exchange_33 rfl rfl) rfl ?_
  refine d_callV 38 (k_LT_sits l g N r6 a0 w3 v4) lk_LT_sits (ci := 32) (T := TLT) (N := 7) rfl (Nat.le_of_ble_eq_true rfl) q_1346 (fun s args ht => ht _ q_1348) (by decide) rfl (Nat.le_of_ble_eq_true rfl) dL_exchange_35 rfl (fun r7 _ => ?_)
  show GD _ _ _ _ _ [] r7
  refine d_st (fun hX _ => g_aload_n 39 5 (hX _) dL_exchange_38 rfl rfl) rfl ?_
  refine d_st (fun hX _ => g_aload_n 40 3 (hX _) dL_exchange_39 rfl rfl) rfl ?_
  refine d_st (fun hX _ => g_iload_n 41 2 (hX _) dL_exchange_40 rfl rfl) rfl ?_
  refine d_callV 44 (k_LT_sits l g N r7 a1 w1 v2) lk_LT_sits (ci := 32) (T := TLT) (N := 7) rfl (Nat.le_of_ble_eq_true rfl) q_1346 (fun s args ht => ht _ q_1348) (by decide) rfl (Nat.le_of_ble_eq_true rfl) dL_exchange_41 rfl (fun r8 _ => ?_)
  show GD _ _ _ _ _ [] r8
  exact d_vret rfl rfl dL_exchange_44
set_option maxRecDepth 100000 in
set_option maxHeartbeats 4000000 in
theorem k_L_against___88 {l : Launch} {g : kG} {L0 : Nat} (N : Nat) : ∀ (M : kMem) (a0 : Nat) (a1 : Nat), GD (l, cL_against__, 4, RL, g, 11, L0, (some .int), yL_against__.name) (fun r : Int32 × kMem => (some (.int r.1), r.2)) (F_L_against___88 N M a0 a1) 88 [(0, .ref a0), (1, .ref a1)] [] M := by
  intro M a0 a1
  unfold F_L_against___88
  refine d_st (fun hX _ => g_iconst 89 (hX _) 1 dL_against___88 rfl kc_i_1) rfl ?_
  refine d_st (fun hX _ => g_goto 93 (hX _) dL_against___89 (by decide)) rfl ?_
  refine d_st (fun hX _ => g_istore_n 94 3 [(3, .int 1), (0, .ref a0), (1, .ref a1)] (hX _) dL_against___93 rfl rfl (Nat.le_of_ble_eq_true rfl) rfl) rfl ?_
  refine d_st (fun hX _ => g_aload_n 95 1 (hX _) dL_against___94 rfl rfl) rfl ?_
  refine d_st (fun hX _ => g_aload_n 96 2 (hX _) dL_against___95 rfl rfl) rfl ?_
  refine d_callS 99 (k_L_exchange l g N M a0 a1) lk_L_exchange q_2024 (by decide) rfl (Nat.le_of_ble_eq_true rfl) dL_against___96 rfl (fun r5 _ => ?_)
  show GD _ _ _ _ _ [] r5
  refine d_st (fun hX _ => g_iload_n 100 0 (hX _) dL_against___99 rfl rfl) rfl ?_
  refine d_if (fun hX _ => g_if_eq 107 103 (hX _) dL_against___100 (by decide) rfl) (fun _ => ?_) (fun _ => ?_)
  · refine d_st (fun hX _ => g_iconst 108 (hX _) 0 dL_against___107 rfl kc_i_0) rfl ?_
    exact d_iret rfl rfl dL_against___108
  · refine d_st (fun hX _ => g_iconst 104 (hX _) 4 dL_against___103 rfl kc_i_4) rfl ?_
    refine d_st (fun hX _ => g_goto 108 (hX _) dL_against___104 (by decide)) rfl ?_
    exact d_iret rfl rfl dL_against___108
set_option maxRecDepth 100000 in
set_option maxHeartbeats 4000000 in
theorem k_L_against___31 {l : Launch} {g : kG} {L0 : Nat} (N : Nat) : ∀ (M : kMem) (a0 : Nat) (a1 : Nat) (x2 : Int32) (y0 : Nat), GD (l, cL_against__, 4, RL, g, 11, L0, (some .int), yL_against__.name) (fun r : Int32 × kMem => (some (.int r.1), r.2)) (F_L_against___31 N M a0 a1 x2 y0) 31 [(0, .ref a0), (1, .ref a1), (2, .int x2)] [.ref y0] M := by
  intro M a0 a1 x2 y0
  unfold F_L_against___31
  refine d_g (fun hX _ => e_L_77 34 (hX _) dL_against___31 rfl) rfl ?_
  refine d_st (fun hX _ => g_iload_n 35 2 (hX _) dL_against___34 rfl rfl) rfl ?_
  refine d_stR (fun hX _ hRc hRs => g_mabs (y := 0) 38 (hX _) q_1432 dL_against___35 rfl (Nat.le_of_ble_eq_true rfl) (by decide) hRc hRs) rfl ?_
  refine d_ifN (fun hX _ => g_icmp_ge 43 41 (hX _) dL_against___38 (by decide) rfl) (fun _ => ?_) (fun _ => ?_)
  · refine d_st (fun hX _ => g_aload_n 44 0 (hX _) dL_against___43 rfl rfl) rfl ?_
    refine d_st (fun hX _ => g_aload_n 45 1 (hX _) dL_against___44 rfl rfl) rfl ?_
    refine d_callS 48 (k_L_exchange l g N M a0 a1) lk_L_exchange q_2024 (by decide) rfl (Nat.le_of_ble_eq_true rfl) dL_against___45 rfl (fun r3 _ => ?_)
    show GD _ _ _ _ _ [] r3
    refine d_st (fun hX _ => g_aload_n 49 0 (hX _) dL_against___48 rfl rfl) rfl ?_
    refine d_g (fun hX _ => e_L_62 52 (hX _) dL_against___49 rfl) rfl ?_
    refine d_callV 55 (k_LB_torque l g N r3 (kR r3 a0 6)) lk_LB_torque (ci := 31) (T := TLB) (N := 5) rfl (Nat.le_of_ble_eq_true rfl) q_1870 (fun s args ht => ht _ q_1738) (by decide) rfl (Nat.le_of_ble_eq_true rfl) dL_against___52 rfl (fun r4 _ => ?_)
    show GD _ _ _ _ _ [.int r4.1] r4.2
    refine d_stR (fun hX _ hRc hRs => g_mabs (y := 0) 58 (hX _) q_1432 dL_against___55 rfl (Nat.le_of_ble_eq_true rfl) (by decide) hRc hRs) rfl ?_
    refine d_st (fun hX _ => g_aload_n 59 0 (hX _) dL_against___58 rfl rfl) rfl ?_
    refine d_g (fun hX _ => e_L_62 62 (hX _) dL_against___59 rfl) rfl ?_
    refine d_g (fun hX _ => e_L_119 65 (hX _) dL_against___62 rfl) rfl ?_
    refine d_if (fun hX _ => g_icmp_gt 88 68 (hX _) dL_against___65 (by decide) rfl) (fun _ => ?_) (fun _ => ?_)
    · refine d_st (fun hX _ => g_lv [0, 1] rfl) rfl ?_
      exact k_L_against___88 N r4.2 a0 a1
    · refine d_st (fun hX _ => g_aload_n 69 1 (hX _) dL_against___68 rfl rfl) rfl ?_
      refine d_g (fun hX _ => e_L_62 72 (hX _) dL_against___69 rfl) rfl ?_
      refine d_callV 75 (k_LB_torque l g N r4.2 (kR r4.2 a1 6)) lk_LB_torque (ci := 31) (T := TLB) (N := 5) rfl (Nat.le_of_ble_eq_true rfl) q_1870 (fun s args ht => ht _ q_1738) (by decide) rfl (Nat.le_of_ble_eq_true rfl) dL_against___72 rfl (fun r6 _ => ?_)
      show GD _ _ _ _ _ [.int r6.1] r6.2
      refine d_stR (fun hX _ hRc hRs => g_mabs (y := 0) 78 (hX _) q_1432 dL_against___75 rfl (Nat.le_of_ble_eq_true rfl) (by decide) hRc hRs) rfl ?_
      refine d_st (fun hX _ => g_aload_n 79 1 (hX _) dL_against___78 rfl rfl) rfl ?_
      refine d_g (fun hX _ => e_L_62 82 (hX _) dL_against___79 rfl) rfl ?_
      refine d_g (fun hX _ => e_L_119 85 (hX _) dL_against___82 rfl) rfl ?_
      refine d_ifN (fun hX _ => g_icmp_le 92 88 (hX _) dL_against___85 (by decide) rfl) (fun _ => ?_) (fun _ => ?_)
      · refine d_st (fun hX _ => g_iconst 93 (hX _) 0 dL_against___92 rfl kc_i_0) rfl ?_
        refine d_st (fun hX _ => g_istore_n 94 3 [(3, .int 0), (0, .ref a0), (1, .ref a1), (2, .int x2)] (hX _) dL_against___93 rfl rfl (Nat.le_of_ble_eq_true rfl) rfl) rfl ?_
        refine d_st (fun hX _ => g_aload_n 95 1 (hX _) dL_against___94 rfl rfl) rfl ?_
        refine d_st (fun hX _ => g_aload_n 96 2 (hX _) dL_against___95 rfl rfl) rfl ?_
        refine d_callS 99 (k_L_exchange l g N r6.2 a0 a1) lk_L_exchange q_2024 (by decide) rfl (Nat.le_of_ble_eq_true rfl) dL_against___96 rfl (fun r7 _ => ?_)
        show GD _ _ _ _ _ [] r7
        refine d_st (fun hX _ => g_iload_n 100 0 (hX _) dL_against___99 rfl rfl) rfl ?_
        refine d_if (fun hX _ => g_if_eq 107 103 (hX _) dL_against___100 (by decide) rfl) (fun _ => ?_) (fun _ => ?_)
        · refine d_st (fun hX _ => g_iconst 108 (hX _) 0 dL_against___107 rfl kc_i_0) rfl ?_
          exact d_iret rfl rfl dL_against___108
        · refine d_st (fun hX _ => g_iconst 104 (hX _) 4 dL_against___103 rfl kc_i_4) rfl ?_
          refine d_st (fun hX _ => g_goto 108 (hX _) dL_against___104 (by decide)) rfl ?_
          exact d_iret rfl rfl dL_against___108
      · refine d_st (fun hX _ => g_lv [0, 1] rfl) rfl ?_
        exact k_L_against___88 N r6.2 a0 a1
  · refine d_st (fun hX _ => g_iconst 42 (hX _) 3 dL_against___41 rfl kc_i_3) rfl ?_
    exact d_iret rfl rfl dL_against___42
set_option maxRecDepth 100000 in
set_option maxHeartbeats 4000000 in
theorem k_L_against__ (l : Launch) (g : kG) (N : Nat) (M : kMem) (a0 : Nat) (a1 : Nat) : kMetD l g yL_against__ cL_against__ 4 (some .int) 11 [.ref a0, .ref a1] M (fun r : Int32 × kMem => (some (.int r.1), r.2)) (F_L_against__ N M a0 a1) := by
  refine k_ofD (lv := [(0, .ref a0), (1, .ref a1)]) RL (by decide) rfl rfl (Nat.le_of_ble_eq_true rfl) ?_
  unfold F_L_against__
  refine d_st (fun hX _ => g_aload_n 1 0 (hX _) dL_against___0 rfl rfl) rfl ?_
  refine d_g (fun hX _ => e_L_62 4 (hX _) dL_against___1 rfl) rfl ?_
  refine d_if (fun hX _ => g_ifnull 14 7 (hX _) dL_against___4 (by decide) rfl) (fun _ => ?_) (fun _ => ?_)
  · refine d_st (fun hX _ => g_iconst 15 (hX _) 5 dL_against___14 rfl kc_i_5) rfl ?_
    exact d_iret rfl rfl dL_against___15
  · refine d_st (fun hX _ => g_aload_n 8 1 (hX _) dL_against___7 rfl rfl) rfl ?_
    refine d_g (fun hX _ => e_L_62 11 (hX _) dL_against___8 rfl) rfl ?_
    refine d_ifN (fun hX _ => g_ifnonnull 16 14 (hX _) dL_against___11 (by decide) rfl) (fun _ => ?_) (fun _ => ?_)
    · refine d_st (fun hX _ => g_aload_n 17 0 (hX _) dL_against___16 rfl rfl) rfl ?_
      refine d_st (fun hX _ => g_aload_n 18 1 (hX _) dL_against___17 rfl rfl) rfl ?_
      refine d_callS 21 (k_L_more l g N M a0 a1) lk_L_more q_2021 (by decide) rfl (Nat.le_of_ble_eq_true rfl) dL_against___18 rfl (fun r1 _ => ?_)
      show GD _ _ _ _ _ [.int r1.1] r1.2
      refine d_klI (fun v2 hv2 => ?_)
      refine d_st (fun hX _ => g_istore_n 22 2 [(2, .int v2), (0, .ref a0), (1, .ref a1)] (hX _) dL_against___21 rfl rfl (Nat.le_of_ble_eq_true rfl) rfl) rfl ?_
      refine d_st (fun hX _ => g_iload_n 23 0 (hX _) dL_against___22 rfl rfl) rfl ?_
      refine d_ifN (fun hX _ => g_if_le 30 26 (hX _) dL_against___23 (by decide) rfl) (fun _ => ?_) (fun _ => ?_)
      · refine d_st (fun hX _ => g_aload_n 31 2 (hX _) dL_against___30 rfl rfl) rfl ?_
        refine d_st (fun hX _ => g_lv [1, 2, 0] rfl) rfl ?_
        exact k_L_against___31 N r1.2 a0 a1 v2 a1
      · refine d_st (fun hX _ => g_aload_n 27 1 (hX _) dL_against___26 rfl rfl) rfl ?_
        refine d_st (fun hX _ => g_goto 31 (hX _) dL_against___27 (by decide)) rfl ?_
        refine d_st (fun hX _ => g_lv [1, 2, 0] rfl) rfl ?_
        exact k_L_against___31 N r1.2 a0 a1 v2 a0
    · refine d_st (fun hX _ => g_iconst 15 (hX _) 5 dL_against___14 rfl kc_i_5) rfl ?_
      exact d_iret rfl rfl dL_against___15
set_option maxRecDepth 100000 in
set_option maxHeartbeats 4000000 in
theorem k_L_position (l : Launch) (g : kG) (N : Nat) (M : kMem) (a0 : Nat) (a1 : Nat) : kMetD l g yL_position cL_position 3 (some .int) 3 [.ref a0, .ref a1] M (fun r : Int32 × kMem => (some (.int r.1), r.2)) (F_L_position N M a0 a1) := by
  refine k_ofD (lv := [(0, .ref a0), (1, .ref a1)]) RL (by decide) rfl rfl (Nat.le_of_ble_eq_true rfl) ?_
  unfold F_L_position
  refine d_st (fun hX _ => g_iconst 1 (hX _) 1 dL_position_0 rfl kc_i_1) rfl ?_
  refine d_st (fun hX _ => g_aload_n 2 1 (hX _) dL_position_1 rfl rfl) rfl ?_
  refine d_st (fun hX _ => g_aload_n 3 0 (hX _) dL_position_2 rfl rfl) rfl ?_
  refine d_g (fun hX _ => e_L_221 6 (hX _) dL_position_3 rfl) rfl ?_
  refine d_callS 9 (k_L_draw l g N M a1 (kI M a0 1)) lk_L_draw q_736 (by decide) rfl (Nat.le_of_ble_eq_true rfl) dL_position_6 rfl (fun r1 _ => ?_)
  show GD _ _ _ _ _ [.int r1.1, .int 1] r1.2
  refine d_st (fun hX _ => g_iadd 10 (hX _) dL_position_9 rfl) rfl ?_
  refine d_klI (fun v2 hv2 => ?_)
  refine d_st (fun hX _ => g_istore_n 11 2 [(2, .int v2), (0, .ref a0), (1, .ref a1)] (hX _) dL_position_10 rfl rfl (Nat.le_of_ble_eq_true rfl) rfl) rfl ?_
  refine d_st (fun hX _ => g_aload_n 12 2 (hX _) dL_position_11 rfl rfl) rfl ?_
  refine d_st (fun hX _ => g_iconst 13 (hX _) 2 dL_position_12 rfl kc_i_2) rfl ?_
  refine d_callS 16 (k_L_draw l g N r1.2 a1 2) lk_L_draw q_736 (by decide) rfl (Nat.le_of_ble_eq_true rfl) dL_position_13 rfl (fun r3 _ => ?_)
  show GD _ _ _ _ _ [.int r3.1] r3.2
  refine d_ifN (fun hX _ => g_if_ne 23 19 (hX _) dL_position_16 (by decide) rfl) (fun _ => ?_) (fun _ => ?_)
  · refine d_st (fun hX _ => g_iload_n 24 0 (hX _) dL_position_23 rfl rfl) rfl ?_
    refine d_st (fun hX _ => g_ineg 25 (hX _) dL_position_24 rfl) rfl ?_
    exact d_iret rfl rfl dL_position_25
  · refine d_st (fun hX _ => g_iload_n 20 0 (hX _) dL_position_19 rfl rfl) rfl ?_
    refine d_st (fun hX _ => g_goto 25 (hX _) dL_position_20 (by decide)) rfl ?_
    exact d_iret rfl rfl dL_position_25
set_option maxRecDepth 100000 in
set_option maxHeartbeats 4000000 in
theorem k_L_feeds_24 {l : Launch} {g : kG} {L0 : Nat} (N : Nat) (k8 : kMem → Nat → Nat → Int32 → Int32 → Option (Int32 × kMem)) (h8 : ∀ (M : kMem) (a0 : Nat) (a1 : Nat) (x2 : Int32) (x3 : Int32), GD (l, cL_feeds, 6, RL, g, 5, L0, (some .boolean), yL_feeds.name) (fun r : Int32 × kMem => (some (.int r.1), r.2)) (k8 M a0 a1 x2 x3) 8 [(0, .ref a0), (1, .ref a1), (2, .int x2), (3, .int x3)] [] M) : ∀ (n : Nat) (M : kMem) (a0 : Nat) (a1 : Nat) (x2 : Int32) (x3 : Int32) (a4 : Nat) (x5 : Int32), GD (l, cL_feeds, 6, RL, g, 5, L0, (some .boolean), yL_feeds.name) (fun r : Int32 × kMem => (some (.int r.1), r.2)) (F_L_feeds_24 N k8 n M a0 a1 x2 x3 a4 x5) 24 [(0, .ref a0), (1, .ref a1), (2, .int x2), (3, .int x3), (4, .ref a4), (5, .int x5)] [] M := by
  intro n
  induction n with
  | zero => intro _ _ _ _ _ _ _; exact d_none
  | succ n ih =>
    intro M a0 a1 x2 x3 a4 x5
    unfold F_L_feeds_24
    refine d_st (fun hX _ => g_iload 26 5 (hX _) dL_feeds_24 rfl rfl) rfl ?_
    refine d_st (fun hX _ => g_bipush 28 (hX _) 20 dL_feeds_26 rfl kc_b_20) rfl ?_
    refine d_ifN (fun hX _ => g_icmp_ge 79 31 (hX _) dL_feeds_28 (by decide) rfl) (fun _ => ?_) (fun _ => ?_)
    · refine d_st (fun hX _ => g_aload_n 80 0 (hX _) dL_feeds_79 rfl rfl) rfl ?_
      refine d_st (fun hX _ => g_aload 82 4 (hX _) dL_feeds_80 rfl rfl) rfl ?_
      refine d_st (fun hX _ => g_iconst 83 (hX _) 0 dL_feeds_82 rfl kc_i_0) rfl ?_
      refine d_g (fun hX _ => g_iald 84 (hX _) dL_feeds_83 rfl) rfl ?_
      refine d_st (fun hX _ => g_aload 86 4 (hX _) dL_feeds_84 rfl rfl) rfl ?_
      refine d_st (fun hX _ => g_iconst 87 (hX _) 1 dL_feeds_86 rfl kc_i_1) rfl ?_
      refine d_g (fun hX _ => g_iald 88 (hX _) dL_feeds_87 rfl) rfl ?_
      refine d_st (fun hX _ => g_aload 90 4 (hX _) dL_feeds_88 rfl rfl) rfl ?_
      refine d_st (fun hX _ => g_iconst 91 (hX _) 2 dL_feeds_90 rfl kc_i_2) rfl ?_
      refine d_g (fun hX _ => g_iald 92 (hX _) dL_feeds_91 rfl) rfl ?_
      refine d_st (fun hX _ => g_aload 94 4 (hX _) dL_feeds_92 rfl rfl) rfl ?_
      refine d_st (fun hX _ => g_iconst 95 (hX _) 3 dL_feeds_94 rfl kc_i_3) rfl ?_
      refine d_g (fun hX _ => g_iald 96 (hX _) dL_feeds_95 rfl) rfl ?_
      refine d_st (fun hX _ => g_aload 98 4 (hX _) dL_feeds_96 rfl rfl) rfl ?_
      refine d_st (fun hX _ => g_iconst 99 (hX _) 4 dL_feeds_98 rfl kc_i_4) rfl ?_
      refine d_g (fun hX _ => g_iald 100 (hX _) dL_feeds_99 rfl) rfl ?_
      refine d_callX 103 (k_X11_append l g N M a0 (kI M a4 (kx 0)) (kI M a4 (kx 1)) (kI M a4 (kx 2)) (kI M a4 (kx 3)) (kI M a4 (kx 4))) lk_X11_append rfl (ci := 11) rfl (Nat.le_of_ble_eq_true rfl) q_1571 q_1573 (by decide) rfl (Nat.le_of_ble_eq_true rfl) dL_feeds_100 rfl (fun r9 _ hr9 => ?_)
      show GD _ _ _ _ _ (.int r9.1 :: []) r9.2
      refine d_st (fun hX _ => g_iload_n 104 3 (hX _) dL_feeds_103 rfl rfl) rfl ?_
      refine d_st (fun hX _ => g_bipush 106 (hX _) 20 dL_feeds_104 rfl kc_b_20) rfl ?_
      refine d_st (fun hX _ => g_iadd 107 (hX _) dL_feeds_106 rfl) rfl ?_
      refine d_if (fun hX _ => g_icmp_eq 112 110 (hX _) dL_feeds_107 (by decide) rfl) (fun _ => ?_) (fun _ => ?_)
      · refine d_kl (fun v10 hv10 => ?_)
        refine d_st (fun hX _ => g_iinc 115 3 3 v10 [(3, .int v10), (0, .ref a0), (1, .ref a1), (2, .int x2), (4, .ref a4), (5, .int x5)] (hX _) dL_feeds_112 rfl rfl (by rw [hv10, kc_i_20]) (Nat.le_of_ble_eq_true rfl) rfl) rfl ?_
        refine d_st (fun hX _ => g_goto 8 (hX _) dL_feeds_115 (by decide)) rfl ?_
        refine d_st (fun hX _ => g_lv [1, 2, 3, 0] rfl) rfl ?_
        exact h8 r9.2 a0 a1 x2 v10
      · refine d_st (fun hX _ => g_iconst 111 (hX _) 0 dL_feeds_110 rfl kc_i_0) rfl ?_
        exact d_zretL rfl rfl rfl dL_feeds_111
    · refine d_st (fun hX _ => g_aload 33 4 (hX _) dL_feeds_31 rfl rfl) rfl ?_
      refine d_st (fun hX _ => g_iload 35 5 (hX _) dL_feeds_33 rfl rfl) rfl ?_
      refine d_st (fun hX _ => g_iconst 36 (hX _) 4 dL_feeds_35 rfl kc_i_4) rfl ?_
      refine d_g (fun hX _ => g_idiv 37 (hX _) dL_feeds_36 rfl) rfl ?_
      refine d_st (fun hX _ => g_aload 39 4 (hX _) dL_feeds_37 rfl rfl) rfl ?_
      refine d_st (fun hX _ => g_iload 41 5 (hX _) dL_feeds_39 rfl rfl) rfl ?_
      refine d_st (fun hX _ => g_iconst 42 (hX _) 4 dL_feeds_41 rfl kc_i_4) rfl ?_
      refine d_g (fun hX _ => g_idiv 43 (hX _) dL_feeds_42 rfl) rfl ?_
      refine d_g (fun hX _ => g_iald 44 (hX _) dL_feeds_43 rfl) rfl ?_
      refine d_st (fun hX _ => g_bipush 46 (hX _) 8 dL_feeds_44 rfl kc_b_8) rfl ?_
      refine d_st (fun hX _ => g_ishl 47 (hX _) dL_feeds_46 rfl) rfl ?_
      refine d_st (fun hX _ => g_iload_n 48 3 (hX _) dL_feeds_47 rfl rfl) rfl ?_
      refine d_st (fun hX _ => g_iload 50 5 (hX _) dL_feeds_48 rfl rfl) rfl ?_
      refine d_st (fun hX _ => g_iadd 51 (hX _) dL_feeds_50 rfl) rfl ?_
      refine d_st (fun hX _ => g_aload_n 52 1 (hX _) dL_feeds_51 rfl rfl) rfl ?_
      refine d_callV 55 (k_J0_lengthR l g N M a1) lk_J0_length_8abf5 (ci := 40) (T := TJ0) (N := 4) rfl (Nat.le_of_ble_eq_true rfl) q_1569 (fun s args ht => ht _ q_377) (by decide) rfl (Nat.le_of_ble_eq_true rfl) dL_feeds_52 rfl (fun r11 _ => ?_)
      show GD _ _ _ _ _ [.int r11, .int (x3 + x5), .int ((kI M a4 (kx (x5 / 4))) <<< (8 &&& 31)), .int (x5 / 4), .ref a4] M
      refine d_ifN (fun hX _ => g_icmp_ge 69 58 (hX _) dL_feeds_55 (by decide) rfl) (fun _ => ?_) (fun _ => ?_)
      · refine d_st (fun hX _ => g_bipush 71 (hX _) 32 dL_feeds_69 rfl kc_b_32) rfl ?_
        refine d_st (fun hX _ => g_ior 72 (hX _) dL_feeds_71 rfl) rfl ?_
        refine d_g (fun hX _ => g_iast 73 (hX _) dL_feeds_72 rfl) rfl ?_
        refine d_klM (fun M12 hM12 => ?_)
        refine d_kl (fun v13 hv13 => ?_)
        refine d_st (fun hX _ => g_iinc 76 5 5 v13 [(5, .int v13), (0, .ref a0), (1, .ref a1), (2, .int x2), (3, .int x3), (4, .ref a4)] (hX _) dL_feeds_73 rfl rfl (by rw [hv13, kc_i_1]) (Nat.le_of_ble_eq_true rfl) rfl) rfl ?_
        refine d_st (fun hX _ => g_goto 24 (hX _) dL_feeds_76 (by decide)) rfl ?_
        refine d_st (fun hX _ => g_lv [1, 2, 3, 4, 5, 0] rfl) rfl ?_
        exact ih M12 a0 a1 x2 x3 a4 v13
      · refine d_st (fun hX _ => g_aload_n 59 1 (hX _) dL_feeds_58 rfl rfl) rfl ?_
        refine d_st (fun hX _ => g_iload_n 60 3 (hX _) dL_feeds_59 rfl rfl) rfl ?_
        refine d_st (fun hX _ => g_iload 62 5 (hX _) dL_feeds_60 rfl rfl) rfl ?_
        refine d_st (fun hX _ => g_iadd 63 (hX _) dL_feeds_62 rfl) rfl ?_
        refine d_callV 66 (k_J0_charAtR l g N M a1 (x3 + x5)) lk_J0_charAt_5068e (ci := 40) (T := TJ0) (N := 4) rfl (Nat.le_of_ble_eq_true rfl) q_1570 (fun s args ht => ht _ q_387) (by decide) rfl (Nat.le_of_ble_eq_true rfl) dL_feeds_63 rfl (fun r14 _ => ?_)
        show GD _ _ _ _ _ [.int r14, .int ((kI M a4 (kx (x5 / 4))) <<< (8 &&& 31)), .int (x5 / 4), .ref a4] M
        refine d_st (fun hX _ => g_goto 71 (hX _) dL_feeds_66 (by decide)) rfl ?_
        refine d_st (fun hX _ => g_ior 72 (hX _) dL_feeds_71 rfl) rfl ?_
        refine d_g (fun hX _ => g_iast 73 (hX _) dL_feeds_72 rfl) rfl ?_
        refine d_klM (fun M15 hM15 => ?_)
        refine d_kl (fun v16 hv16 => ?_)
        refine d_st (fun hX _ => g_iinc 76 5 5 v16 [(5, .int v16), (0, .ref a0), (1, .ref a1), (2, .int x2), (3, .int x3), (4, .ref a4)] (hX _) dL_feeds_73 rfl rfl (by rw [hv16, kc_i_1]) (Nat.le_of_ble_eq_true rfl) rfl) rfl ?_
        refine d_st (fun hX _ => g_goto 24 (hX _) dL_feeds_76 (by decide)) rfl ?_
        refine d_st (fun hX _ => g_lv [1, 2, 3, 4, 5, 0] rfl) rfl ?_
        exact ih M15 a0 a1 x2 x3 a4 v16
set_option maxRecDepth 100000 in
set_option maxHeartbeats 4000000 in
theorem k_L_feeds_8 {l : Launch} {g : kG} {L0 : Nat} (N : Nat) : ∀ (n : Nat) (M : kMem) (a0 : Nat) (a1 : Nat) (x2 : Int32) (x3 : Int32), GD (l, cL_feeds, 6, RL, g, 5, L0, (some .boolean), yL_feeds.name) (fun r : Int32 × kMem => (some (.int r.1), r.2)) (F_L_feeds_8 N n M a0 a1 x2 x3) 8 [(0, .ref a0), (1, .ref a1), (2, .int x2), (3, .int x3)] [] M := by
  intro n
  induction n with
  | zero => intro _ _ _ _ _; exact d_none
  | succ n ih =>
    intro M a0 a1 x2 x3
    unfold F_L_feeds_8
    refine d_st (fun hX _ => g_iload_n 9 3 (hX _) dL_feeds_8 rfl rfl) rfl ?_
    refine d_st (fun hX _ => g_aload_n 10 1 (hX _) dL_feeds_9 rfl rfl) rfl ?_
    refine d_callV 13 (k_J0_lengthR l g N M a1) lk_J0_length_8abf5 (ci := 40) (T := TJ0) (N := 4) rfl (Nat.le_of_ble_eq_true rfl) q_1569 (fun s args ht => ht _ q_377) (by decide) rfl (Nat.le_of_ble_eq_true rfl) dL_feeds_10 rfl (fun r3 _ => ?_)
    show GD _ _ _ _ _ [.int r3, .int x3] M
    refine d_ifN (fun hX _ => g_icmp_ge 118 16 (hX _) dL_feeds_13 (by decide) rfl) (fun _ => ?_) (fun _ => ?_)
    · refine d_st (fun hX _ => g_iload_n 119 2 (hX _) dL_feeds_118 rfl rfl) rfl ?_
      refine d_ifN (fun hX _ => g_if_ne 141 122 (hX _) dL_feeds_119 (by decide) rfl) (fun _ => ?_) (fun _ => ?_)
      · refine d_st (fun hX _ => g_iconst 142 (hX _) 0 dL_feeds_141 rfl kc_i_0) rfl ?_
        exact d_zretL rfl rfl rfl dL_feeds_142
      · refine d_st (fun hX _ => g_aload_n 123 0 (hX _) dL_feeds_122 rfl rfl) rfl ?_
        refine d_st (fun hX _ => g_aload_n 124 1 (hX _) dL_feeds_123 rfl rfl) rfl ?_
        refine d_callV 127 (k_J0_lengthR l g N M a1) lk_J0_length_8abf5 (ci := 40) (T := TJ0) (N := 4) rfl (Nat.le_of_ble_eq_true rfl) q_1569 (fun s args ht => ht _ q_377) (by decide) rfl (Nat.le_of_ble_eq_true rfl) dL_feeds_124 rfl (fun r4 _ => ?_)
        show GD _ _ _ _ _ [.int r4, .ref a0] M
        refine d_callX 130 (k_X11_truncate l g N M a0 r4) lk_X11_truncate rfl (ci := 11) rfl (Nat.le_of_ble_eq_true rfl) q_1495 q_1497 (by decide) rfl (Nat.le_of_ble_eq_true rfl) dL_feeds_127 rfl (fun r5 _ hr5 => ?_)
        show GD _ _ _ _ _ (.int r5.1 :: []) r5.2
        refine d_st (fun hX _ => g_aload_n 131 1 (hX _) dL_feeds_130 rfl rfl) rfl ?_
        refine d_callV 134 (k_J0_lengthR l g N r5.2 a1) lk_J0_length_8abf5 (ci := 40) (T := TJ0) (N := 4) rfl (Nat.le_of_ble_eq_true rfl) q_1569 (fun s args ht => ht _ q_377) (by decide) rfl (Nat.le_of_ble_eq_true rfl) dL_feeds_131 rfl (fun r6 _ => ?_)
        show GD _ _ _ _ _ [.int r6, .int r5.1] r5.2
        refine d_ifN (fun hX _ => g_icmp_ne 141 137 (hX _) dL_feeds_134 (by decide) rfl) (fun _ => ?_) (fun _ => ?_)
        · refine d_st (fun hX _ => g_iconst 142 (hX _) 0 dL_feeds_141 rfl kc_i_0) rfl ?_
          exact d_zretL rfl rfl rfl dL_feeds_142
        · refine d_st (fun hX _ => g_iconst 138 (hX _) 1 dL_feeds_137 rfl kc_i_1) rfl ?_
          refine d_st (fun hX _ => g_goto 142 (hX _) dL_feeds_138 (by decide)) rfl ?_
          exact d_zretL rfl rfl rfl dL_feeds_142
    · refine d_st (fun hX _ => g_iconst 17 (hX _) 5 dL_feeds_16 rfl kc_i_5) rfl ?_
      refine d_newaI 19 dL_feeds_17 rfl ?_
      refine d_klR (fun w7 hw7 => ?_)
      refine d_klM (fun M8 hM8 => ?_)
      refine d_st (fun hX _ => g_astore 21 4 [(4, .ref w7), (0, .ref a0), (1, .ref a1), (2, .int x2), (3, .int x3)] (hX _) dL_feeds_19 rfl (Nat.le_of_ble_eq_true rfl) rfl) rfl ?_
      refine d_st (fun hX _ => g_iconst 22 (hX _) 0 dL_feeds_21 rfl kc_i_0) rfl ?_
      refine d_st (fun hX _ => g_istore 24 5 [(5, .int 0), (4, .ref w7), (0, .ref a0), (1, .ref a1), (2, .int x2), (3, .int x3)] (hX _) dL_feeds_22 rfl (Nat.le_of_ble_eq_true rfl) rfl) rfl ?_
      refine d_st (fun hX _ => g_lv [2, 3, 4, 5, 1, 0] rfl) rfl ?_
      exact k_L_feeds_24 N (fun M a0 a1 x2 x3 => F_L_feeds_8 N n M a0 a1 x2 x3) ih N M8 a0 a1 x2 x3 w7 0
set_option maxRecDepth 100000 in
set_option maxHeartbeats 4000000 in
theorem k_L_feeds (l : Launch) (g : kG) (N : Nat) (M : kMem) (a0 : Nat) (a1 : Nat) : kMetD l g yL_feeds cL_feeds 6 (some .boolean) 5 [.ref a0, .ref a1] M (fun r : Int32 × kMem => (some (.int r.1), r.2)) (F_L_feeds N M a0 a1) := by
  refine k_ofD (lv := [(0, .ref a0), (1, .ref a1)]) RL (by decide) rfl rfl (Nat.le_of_ble_eq_true rfl) ?_
  unfold F_L_feeds
  refine d_st (fun hX _ => g_aload_n 1 0 (hX _) dL_feeds_0 rfl rfl) rfl ?_
  refine d_st (fun hX _ => g_iconst 2 (hX _) 0 dL_feeds_1 rfl kc_i_0) rfl ?_
  refine d_callX 5 (k_X11_truncate l g N M a0 0) lk_X11_truncate rfl (ci := 11) rfl (Nat.le_of_ble_eq_true rfl) q_1495 q_1497 (by decide) rfl (Nat.le_of_ble_eq_true rfl) dL_feeds_2 rfl (fun r1 _ hr1 => ?_)
  show GD _ _ _ _ _ (.int r1.1 :: []) r1.2
  refine d_klI (fun v2 hv2 => ?_)
  refine d_st (fun hX _ => g_istore_n 6 2 [(2, .int v2), (0, .ref a0), (1, .ref a1)] (hX _) dL_feeds_5 rfl rfl (Nat.le_of_ble_eq_true rfl) rfl) rfl ?_
  refine d_st (fun hX _ => g_iconst 7 (hX _) 0 dL_feeds_6 rfl kc_i_0) rfl ?_
  refine d_st (fun hX _ => g_istore_n 8 3 [(3, .int 0), (2, .int v2), (0, .ref a0), (1, .ref a1)] (hX _) dL_feeds_7 rfl rfl (Nat.le_of_ble_eq_true rfl) rfl) rfl ?_
  refine d_st (fun hX _ => g_lv [2, 3, 1, 0] rfl) rfl ?_
  exact k_L_feeds_8 N N r1.2 a0 a1 v2 0
set_option maxRecDepth 100000 in
set_option maxHeartbeats 4000000 in
theorem k_L_still_341 {l : Launch} {g : kG} {L0 : Nat} (N : Nat) (k226 : kMem → Nat → Nat → Int32 → Option (Int32 × kMem)) (k286 : kMem → Nat → Nat → Int32 → Nat → Int32 → Option (Int32 × kMem)) (h226 : ∀ (M : kMem) (a0 : Nat) (a1 : Nat) (x2 : Int32), GD (l, cL_still, 6, RL, g, 9, L0, (some .boolean), yL_still.name) (fun r : Int32 × kMem => (some (.int r.1), r.2)) (k226 M a0 a1 x2) 226 [(0, .ref a0), (1, .ref a1), (2, .int x2)] [] M) (h286 : ∀ (M : kMem) (a0 : Nat) (a1 : Nat) (x2 : Int32) (a3 : Nat) (x4 : Int32), GD (l, cL_still, 6, RL, g, 9, L0, (some .boolean), yL_still.name) (fun r : Int32 × kMem => (some (.int r.1), r.2)) (k286 M a0 a1 x2 a3 x4) 286 [(0, .ref a0), (1, .ref a1), (2, .int x2), (3, .ref a3), (4, .int x4)] [] M) : ∀ (M : kMem) (a0 : Nat) (a1 : Nat) (x2 : Int32) (a3 : Nat) (x4 : Int32) (y0 : Int32) (y1 : Int32), GD (l, cL_still, 6, RL, g, 9, L0, (some .boolean), yL_still.name) (fun r : Int32 × kMem => (some (.int r.1), r.2)) (F_L_still_341 N k226 k286 M a0 a1 x2 a3 x4 y0 y1) 341 [(0, .ref a0), (1, .ref a1), (2, .int x2), (3, .ref a3), (4, .int x4)] [.int y1, .int y0] M := by
  intro M a0 a1 x2 a3 x4 y0 y1
  unfold F_L_still_341
  refine d_ifN (fun hX _ => g_icmp_ne 377 344 (hX _) dL_still_341 (by decide) rfl) (fun _ => ?_) (fun _ => ?_)
  · refine d_st (fun hX _ => g_iconst 378 (hX _) 0 dL_still_377 rfl kc_i_0) rfl ?_
    exact d_zretL rfl rfl rfl dL_still_378
  · refine d_st (fun hX _ => g_aload_n 345 0 (hX _) dL_still_344 rfl rfl) rfl ?_
    refine d_st (fun hX _ => g_iload_n 346 2 (hX _) dL_still_345 rfl rfl) rfl ?_
    refine d_st (fun hX _ => g_iload 348 4 (hX _) dL_still_346 rfl rfl) rfl ?_
    refine d_callX 351 (k_X11_seatHeight l g N M a0 x2 x4) lk_X11_seatHeight rfl (ci := 11) rfl (Nat.le_of_ble_eq_true rfl) q_1892 q_1894 (by decide) rfl (Nat.le_of_ble_eq_true rfl) dL_still_348 rfl (fun r19 _ hr19 => ?_)
    show GD _ _ _ _ _ (.int r19 :: []) M
    refine d_st (fun hX _ => g_aload_n 352 3 (hX _) dL_still_351 rfl rfl) rfl ?_
    refine d_st (fun hX _ => g_iload 354 4 (hX _) dL_still_352 rfl rfl) rfl ?_
    refine d_callV 357 (k_LB_height l g N M a3 x4) lk_LB_height (ci := 31) (T := TLB) (N := 5) rfl (Nat.le_of_ble_eq_true rfl) q_1728 (fun s args ht => ht _ q_1730) (by decide) rfl (Nat.le_of_ble_eq_true rfl) dL_still_354 rfl (fun r20 _ => ?_)
    show GD _ _ _ _ _ [.int r20.1, .int r19] r20.2
    refine d_ifN (fun hX _ => g_icmp_ne 377 360 (hX _) dL_still_357 (by decide) rfl) (fun _ => ?_) (fun _ => ?_)
    · refine d_st (fun hX _ => g_iconst 378 (hX _) 0 dL_still_377 rfl kc_i_0) rfl ?_
      exact d_zretL rfl rfl rfl dL_still_378
    · refine d_st (fun hX _ => g_aload_n 361 0 (hX _) dL_still_360 rfl rfl) rfl ?_
      refine d_st (fun hX _ => g_iload_n 362 2 (hX _) dL_still_361 rfl rfl) rfl ?_
      refine d_st (fun hX _ => g_iload 364 4 (hX _) dL_still_362 rfl rfl) rfl ?_
      refine d_callX 367 (k_X11_seatPrice l g N r20.2 a0 x2 x4) lk_X11_seatPrice rfl (ci := 11) rfl (Nat.le_of_ble_eq_true rfl) q_1900 q_1902 (by decide) rfl (Nat.le_of_ble_eq_true rfl) dL_still_364 rfl (fun r21 _ hr21 => ?_)
      show GD _ _ _ _ _ (.int r21 :: []) r20.2
      refine d_st (fun hX _ => g_aload_n 368 1 (hX _) dL_still_367 rfl rfl) rfl ?_
      refine d_st (fun hX _ => g_aload_n 369 3 (hX _) dL_still_368 rfl rfl) rfl ?_
      refine d_st (fun hX _ => g_iload 371 4 (hX _) dL_still_369 rfl rfl) rfl ?_
      refine d_callV 374 (k_L_price l g N r20.2 a1 a3 x4) lk_L_price (ci := 30) (T := TL) (N := 12) rfl (Nat.le_of_ble_eq_true rfl) q_1910 (fun s args ht => ht _ q_24) (by decide) rfl (Nat.le_of_ble_eq_true rfl) dL_still_371 rfl (fun r22 _ => ?_)
      show GD _ _ _ _ _ [.int r22.1, .int r21] r22.2
      refine d_if (fun hX _ => g_icmp_eq 379 377 (hX _) dL_still_374 (by decide) rfl) (fun _ => ?_) (fun _ => ?_)
      · refine d_kl (fun v23 hv23 => ?_)
        refine d_st (fun hX _ => g_iinc 382 4 4 v23 [(4, .int v23), (0, .ref a0), (1, .ref a1), (2, .int x2), (3, .ref a3)] (hX _) dL_still_379 rfl rfl (by rw [hv23, kc_i_1]) (Nat.le_of_ble_eq_true rfl) rfl) rfl ?_
        refine d_st (fun hX _ => g_goto 286 (hX _) dL_still_382 (by decide)) rfl ?_
        refine d_st (fun hX _ => g_lv [1, 2, 3, 4, 0] rfl) rfl ?_
        exact h286 r22.2 a0 a1 x2 a3 v23
      · refine d_st (fun hX _ => g_iconst 378 (hX _) 0 dL_still_377 rfl kc_i_0) rfl ?_
        exact d_zretL rfl rfl rfl dL_still_378
set_option maxRecDepth 100000 in
set_option maxHeartbeats 4000000 in
theorem k_L_still_286 {l : Launch} {g : kG} {L0 : Nat} (N : Nat) (k226 : kMem → Nat → Nat → Int32 → Option (Int32 × kMem)) (h226 : ∀ (M : kMem) (a0 : Nat) (a1 : Nat) (x2 : Int32), GD (l, cL_still, 6, RL, g, 9, L0, (some .boolean), yL_still.name) (fun r : Int32 × kMem => (some (.int r.1), r.2)) (k226 M a0 a1 x2) 226 [(0, .ref a0), (1, .ref a1), (2, .int x2)] [] M) : ∀ (n : Nat) (M : kMem) (a0 : Nat) (a1 : Nat) (x2 : Int32) (a3 : Nat) (x4 : Int32), GD (l, cL_still, 6, RL, g, 9, L0, (some .boolean), yL_still.name) (fun r : Int32 × kMem => (some (.int r.1), r.2)) (F_L_still_286 N k226 n M a0 a1 x2 a3 x4) 286 [(0, .ref a0), (1, .ref a1), (2, .int x2), (3, .ref a3), (4, .int x4)] [] M := by
  intro n
  induction n with
  | zero => intro _ _ _ _ _ _; exact d_none
  | succ n ih =>
    intro M a0 a1 x2 a3 x4
    unfold F_L_still_286
    refine d_st (fun hX _ => g_iload 288 4 (hX _) dL_still_286 rfl rfl) rfl ?_
    refine d_st (fun hX _ => g_aload_n 289 3 (hX _) dL_still_288 rfl rfl) rfl ?_
    refine d_g (fun hX _ => e_L_221 292 (hX _) dL_still_289 rfl) rfl ?_
    refine d_if (fun hX _ => g_icmp_gt 385 295 (hX _) dL_still_292 (by decide) rfl) (fun _ => ?_) (fun _ => ?_)
    · refine d_kl (fun v15 hv15 => ?_)
      refine d_st (fun hX _ => g_iinc 388 2 2 v15 [(2, .int v15), (0, .ref a0), (1, .ref a1), (3, .ref a3), (4, .int x4)] (hX _) dL_still_385 rfl rfl (by rw [hv15, kc_i_1]) (Nat.le_of_ble_eq_true rfl) rfl) rfl ?_
      refine d_st (fun hX _ => g_goto 226 (hX _) dL_still_388 (by decide)) rfl ?_
      refine d_st (fun hX _ => g_lv [1, 2, 0] rfl) rfl ?_
      exact h226 M a0 a1 v15
    · refine d_st (fun hX _ => g_iload 297 4 (hX _) dL_still_295 rfl rfl) rfl ?_
      refine d_ifN (fun hX _ => g_if_ne 303 300 (hX _) dL_still_297 (by decide) rfl) (fun _ => ?_) (fun _ => ?_)
      · refine d_st (fun hX _ => g_aload_n 304 3 (hX _) dL_still_303 rfl rfl) rfl ?_
        refine d_g (fun hX _ => e_L_122 307 (hX _) dL_still_304 rfl) rfl ?_
        refine d_st (fun hX _ => g_iload 309 4 (hX _) dL_still_307 rfl rfl) rfl ?_
        refine d_callS 312 (k_IN_valueOf l g N M x4) lk_IN_valueOf_2dffe q_1110 (by decide) rfl (Nat.le_of_ble_eq_true rfl) dL_still_309 rfl (fun r16 _ => ?_)
        show GD _ _ _ _ _ [.retAddr (g.1 (2000 + kBi r16.1)), .ref (kR M a3 4)] r16.2
        refine d_callV 315 (k_TM_get l g N r16.2 (kR M a3 4) r16.1) lk_TM_get (ci := 34) (T := TTM) (N := 9) rfl (Nat.le_of_ble_eq_true rfl) q_1877 (fun s args ht => ht _ q_1879) (by decide) rfl (Nat.le_of_ble_eq_true rfl) dL_still_312 rfl (fun r17 _ => ?_)
        show GD _ _ _ _ _ [.ref r17] r16.2
        refine d_g (fun hX _ => g_cast 318 (hX _) (ci := 32) (T := TLT) (N := 7) rfl (Nat.le_of_ble_eq_true rfl) q_1052 dL_still_315 rfl) rfl ?_
        refine d_st (fun hX _ => g_astore 320 5 [(5, .ref r17), (0, .ref a0), (1, .ref a1), (2, .int x2), (3, .ref a3), (4, .int x4)] (hX _) dL_still_318 rfl (Nat.le_of_ble_eq_true rfl) rfl) rfl ?_
        refine d_st (fun hX _ => g_aload_n 321 1 (hX _) dL_still_320 rfl rfl) rfl ?_
        refine d_st (fun hX _ => g_iload_n 322 3 (hX _) dL_still_321 rfl rfl) rfl ?_
        refine d_st (fun hX _ => g_iload 324 5 (hX _) dL_still_322 rfl rfl) rfl ?_
        refine d_callX 327 (k_X11_seatOwner l g N r16.2 a0 x2 x4) lk_X11_seatOwner rfl (ci := 11) rfl (Nat.le_of_ble_eq_true rfl) q_1881 q_1883 (by decide) rfl (Nat.le_of_ble_eq_true rfl) dL_still_324 rfl (fun r18 _ hr18 => ?_)
        show GD _ _ _ _ _ (.int r18 :: []) r16.2
        refine d_st (fun hX _ => g_aload 329 0 (hX _) dL_still_327 rfl rfl) rfl ?_
        refine d_ifN (fun hX _ => g_ifnonnull 336 332 (hX _) dL_still_329 (by decide) rfl) (fun _ => ?_) (fun _ => ?_)
        · refine d_st (fun hX _ => g_aload 338 0 (hX _) dL_still_336 rfl rfl) rfl ?_
          refine d_g (fun hX _ => e_L_230 341 (hX _) dL_still_338 rfl) rfl ?_
          refine d_st (fun hX _ => g_lv [1, 2, 3, 4, 5] rfl) rfl ?_
          exact k_L_still_341 N k226 (fun M a0 a1 x2 a3 x4 => F_L_still_286 N k226 n M a0 a1 x2 a3 x4) h226 ih r16.2 a0 a1 x2 a3 x4 r18 (kI r16.2 r17 0)
        · refine d_st (fun hX _ => g_iconst 333 (hX _) (-1) dL_still_332 rfl kc_i_m1) rfl ?_
          refine d_st (fun hX _ => g_goto 341 (hX _) dL_still_333 (by decide)) rfl ?_
          refine d_st (fun hX _ => g_lv [1, 2, 3, 4, 5] rfl) rfl ?_
          exact k_L_still_341 N k226 (fun M a0 a1 x2 a3 x4 => F_L_still_286 N k226 n M a0 a1 x2 a3 x4) h226 ih r16.2 a0 a1 x2 a3 x4 r18 (-1)
      · refine d_st (fun hX _ => g_goto 379 (hX _) dL_still_300 (by decide)) rfl ?_
        refine d_kl (fun v24 hv24 => ?_)
        refine d_st (fun hX _ => g_iinc 382 4 4 v24 [(4, .int v24), (0, .ref a0), (1, .ref a1), (2, .int x2), (3, .ref a3)] (hX _) dL_still_379 rfl rfl (by rw [hv24, kc_i_1]) (Nat.le_of_ble_eq_true rfl) rfl) rfl ?_
        refine d_st (fun hX _ => g_goto 286 (hX _) dL_still_382 (by decide)) rfl ?_
        refine d_st (fun hX _ => g_lv [1, 2, 3, 4, 0] rfl) rfl ?_
        exact ih M a0 a1 x2 a3 v24
set_option maxRecDepth 100000 in
set_option maxHeartbeats 4000000 in
theorem k_L_still_226 {l : Launch} {g : kG} {L0 : Nat} (N : Nat) : ∀ (n : Nat) (M : kMem) (a0 : Nat) (a1 : Nat) (x2 : Int32), GD (l, cL_still, 6, RL, g, 9, L0, (some .boolean), yL_still.name) (fun r : Int32 × kMem => (some (.int r.1), r.2)) (F_L_still_226 N n M a0 a1 x2) 226 [(0, .ref a0), (1, .ref a1), (2, .int x2)] [] M := by
  intro n
  induction n with
  | zero => intro _ _ _ _; exact d_none
  | succ n ih =>
    intro M a0 a1 x2
    unfold F_L_still_226
    refine d_st (fun hX _ => g_iload_n 227 2 (hX _) dL_still_226 rfl rfl) rfl ?_
    refine d_st (fun hX _ => g_aload_n 228 1 (hX _) dL_still_227 rfl rfl) rfl ?_
    refine d_g (fun hX _ => e_L_10 231 (hX _) dL_still_228 rfl) rfl ?_
    refine d_callF 236 (k_AL_size l g N M (kR M a1 0)) lk_AL_size_8abf5 (ci := 33) (T := TAL) (N := 3) rfl (Nat.le_of_ble_eq_true rfl) q_916 q_920 (by decide +kernel) (by decide +kernel) (by decide) rfl (Nat.le_of_ble_eq_true rfl) dL_still_231 rfl (fun r8 _ => ?_)
    show GD _ _ _ _ _ [.int r8, .int x2] M
    refine d_ifN (fun hX _ => g_icmp_ge 391 239 (hX _) dL_still_236 (by decide) rfl) (fun _ => ?_) (fun _ => ?_)
    · refine d_st (fun hX _ => g_iconst 392 (hX _) 1 dL_still_391 rfl kc_i_1) rfl ?_
      exact d_zretL rfl rfl rfl dL_still_392
    · refine d_st (fun hX _ => g_aload_n 240 1 (hX _) dL_still_239 rfl rfl) rfl ?_
      refine d_g (fun hX _ => e_L_10 243 (hX _) dL_still_240 rfl) rfl ?_
      refine d_st (fun hX _ => g_iload_n 244 2 (hX _) dL_still_243 rfl rfl) rfl ?_
      refine d_callF 249 (k_AL_get l g N M (kR M a1 0) x2) lk_AL_get_915e3 (ci := 33) (T := TAL) (N := 3) rfl (Nat.le_of_ble_eq_true rfl) q_1091 q_1094 (by decide +kernel) (by decide +kernel) (by decide) rfl (Nat.le_of_ble_eq_true rfl) dL_still_244 rfl (fun r9 _ => ?_)
      show GD _ _ _ _ _ [.ref r9] M
      refine d_g (fun hX _ => g_cast 252 (hX _) (ci := 31) (T := TLB) (N := 5) rfl (Nat.le_of_ble_eq_true rfl) q_913 dL_still_249 rfl) rfl ?_
      refine d_st (fun hX _ => g_astore_n 253 3 [(3, .ref r9), (0, .ref a0), (1, .ref a1), (2, .int x2)] (hX _) dL_still_252 rfl rfl (Nat.le_of_ble_eq_true rfl) rfl) rfl ?_
      refine d_st (fun hX _ => g_aload_n 254 1 (hX _) dL_still_253 rfl rfl) rfl ?_
      refine d_st (fun hX _ => g_iload_n 255 3 (hX _) dL_still_254 rfl rfl) rfl ?_
      refine d_callX 258 (k_X11_torque l g N M a0 x2) lk_X11_torque rfl (ci := 11) rfl (Nat.le_of_ble_eq_true rfl) q_1859 q_1861 (by decide) rfl (Nat.le_of_ble_eq_true rfl) dL_still_255 rfl (fun r10 _ hr10 => ?_)
      show GD _ _ _ _ _ (.int r10 :: []) M
      refine d_st (fun hX _ => g_aload_n 259 0 (hX _) dL_still_258 rfl rfl) rfl ?_
      refine d_callV 262 (k_LB_torque l g N M r9) lk_LB_torque (ci := 31) (T := TLB) (N := 5) rfl (Nat.le_of_ble_eq_true rfl) q_1870 (fun s args ht => ht _ q_1738) (by decide) rfl (Nat.le_of_ble_eq_true rfl) dL_still_259 rfl (fun r11 _ => ?_)
      show GD _ _ _ _ _ [.int r11.1, .int r10] r11.2
      refine d_ifN (fun hX _ => g_icmp_ne 277 265 (hX _) dL_still_262 (by decide) rfl) (fun _ => ?_) (fun _ => ?_)
      · refine d_st (fun hX _ => g_iconst 278 (hX _) 0 dL_still_277 rfl kc_i_0) rfl ?_
        exact d_zretL rfl rfl rfl dL_still_278
      · refine d_st (fun hX _ => g_aload_n 266 1 (hX _) dL_still_265 rfl rfl) rfl ?_
        refine d_st (fun hX _ => g_iload_n 267 3 (hX _) dL_still_266 rfl rfl) rfl ?_
        refine d_callX 270 (k_X11_tilt l g N r11.2 a0 x2) lk_X11_tilt rfl (ci := 11) rfl (Nat.le_of_ble_eq_true rfl) q_1871 q_1873 (by decide) rfl (Nat.le_of_ble_eq_true rfl) dL_still_267 rfl (fun r12 _ hr12 => ?_)
        show GD _ _ _ _ _ (.int r12 :: []) r11.2
        refine d_st (fun hX _ => g_aload_n 271 0 (hX _) dL_still_270 rfl rfl) rfl ?_
        refine d_callV 274 (k_LB_tilt l g N r11.2 r9) lk_LB_tilt (ci := 31) (T := TLB) (N := 5) rfl (Nat.le_of_ble_eq_true rfl) q_1876 (fun s args ht => ht _ q_1734) (by decide) rfl (Nat.le_of_ble_eq_true rfl) dL_still_271 rfl (fun r13 _ => ?_)
        show GD _ _ _ _ _ [.int r13.1, .int r12] r13.2
        refine d_if (fun hX _ => g_icmp_eq 279 277 (hX _) dL_still_274 (by decide) rfl) (fun _ => ?_) (fun _ => ?_)
        · refine d_st (fun hX _ => g_aload_n 280 0 (hX _) dL_still_279 rfl rfl) rfl ?_
          refine d_g (fun hX _ => e_L_221 283 (hX _) dL_still_280 rfl) rfl ?_
          refine d_st (fun hX _ => g_ineg 284 (hX _) dL_still_283 rfl) rfl ?_
          refine d_klI (fun v14 hv14 => ?_)
          refine d_st (fun hX _ => g_istore 286 4 [(4, .int v14), (3, .ref r9), (0, .ref a0), (1, .ref a1), (2, .int x2)] (hX _) dL_still_284 rfl (Nat.le_of_ble_eq_true rfl) rfl) rfl ?_
          refine d_st (fun hX _ => g_lv [2, 3, 4, 1, 0] rfl) rfl ?_
          exact k_L_still_286 N (fun M a0 a1 x2 => F_L_still_226 N n M a0 a1 x2) ih N r13.2 a0 a1 x2 r9 v14
        · refine d_st (fun hX _ => g_iconst 278 (hX _) 0 dL_still_277 rfl kc_i_0) rfl ?_
          exact d_zretL rfl rfl rfl dL_still_278
set_option maxRecDepth 100000 in
set_option maxHeartbeats 4000000 in
theorem k_L_still_176 {l : Launch} {g : kG} {L0 : Nat} (N : Nat) (k66 : kMem → Nat → Nat → Int32 → Option (Int32 × kMem)) (h66 : ∀ (M : kMem) (a0 : Nat) (a1 : Nat) (x2 : Int32), GD (l, cL_still, 6, RL, g, 9, L0, (some .boolean), yL_still.name) (fun r : Int32 × kMem => (some (.int r.1), r.2)) (k66 M a0 a1 x2) 66 [(0, .ref a0), (1, .ref a1), (2, .int x2)] [] M) : ∀ (M : kMem) (a0 : Nat) (a1 : Nat) (x2 : Int32) (a3 : Nat) (y0 : Int32) (y1 : Int32), GD (l, cL_still, 6, RL, g, 9, L0, (some .boolean), yL_still.name) (fun r : Int32 × kMem => (some (.int r.1), r.2)) (F_L_still_176 N k66 M a0 a1 x2 a3 y0 y1) 176 [(0, .ref a0), (1, .ref a1), (2, .int x2), (3, .ref a3)] [.int y1, .int y0] M := by
  intro M a0 a1 x2 a3 y0 y1
  unfold F_L_still_176
  refine d_if (fun hX _ => g_icmp_eq 181 179 (hX _) dL_still_176 (by decide) rfl) (fun _ => ?_) (fun _ => ?_)
  · refine d_st (fun hX _ => g_aload_n 182 0 (hX _) dL_still_181 rfl rfl) rfl ?_
    refine d_st (fun hX _ => g_iload_n 183 2 (hX _) dL_still_182 rfl rfl) rfl ?_
    refine d_callX 186 (k_X11_incomeOf l g N M a0 x2) lk_X11_incomeOf rfl (ci := 11) rfl (Nat.le_of_ble_eq_true rfl) q_1708 q_1710 (by decide) rfl (Nat.le_of_ble_eq_true rfl) dL_still_183 rfl (fun r32 _ hr32 => ?_)
    show GD _ _ _ _ _ (.int r32 :: []) M
    refine d_st (fun hX _ => g_aload_n 187 3 (hX _) dL_still_186 rfl rfl) rfl ?_
    refine d_g (fun hX _ => e_L_62 190 (hX _) dL_still_187 rfl) rfl ?_
    refine d_ifN (fun hX _ => g_ifnonnull 197 193 (hX _) dL_still_190 (by decide) rfl) (fun _ => ?_) (fun _ => ?_)
    · refine d_st (fun hX _ => g_aload_n 198 1 (hX _) dL_still_197 rfl rfl) rfl ?_
      refine d_g (fun hX _ => e_L_59 201 (hX _) dL_still_198 rfl) rfl ?_
      refine d_st (fun hX _ => g_aload_n 202 3 (hX _) dL_still_201 rfl rfl) rfl ?_
      refine d_g (fun hX _ => e_L_62 205 (hX _) dL_still_202 rfl) rfl ?_
      refine d_st (fun hX _ => g_aload_n 206 3 (hX _) dL_still_205 rfl rfl) rfl ?_
      refine d_g (fun hX _ => e_L_68 209 (hX _) dL_still_206 rfl) rfl ?_
      refine d_callV 212 (k_LB_height l g N M (kR M a3 6) (kI M a3 4)) lk_LB_height (ci := 31) (T := TLB) (N := 5) rfl (Nat.le_of_ble_eq_true rfl) q_1728 (fun s args ht => ht _ q_1730) (by decide) rfl (Nat.le_of_ble_eq_true rfl) dL_still_209 rfl (fun r33 _ => ?_)
      show GD _ _ _ _ _ [.int r33.1, .int (kI M a1 2), .int r32] r33.2
      refine d_st (fun hX _ => g_iadd 213 (hX _) dL_still_212 rfl) rfl ?_
      refine d_if (fun hX _ => g_icmp_eq 218 216 (hX _) dL_still_213 (by decide) rfl) (fun _ => ?_) (fun _ => ?_)
      · refine d_kl (fun v34 hv34 => ?_)
        refine d_st (fun hX _ => g_iinc 221 2 2 v34 [(2, .int v34), (0, .ref a0), (1, .ref a1), (3, .ref a3)] (hX _) dL_still_218 rfl rfl (by rw [hv34, kc_i_1]) (Nat.le_of_ble_eq_true rfl) rfl) rfl ?_
        refine d_st (fun hX _ => g_goto 66 (hX _) dL_still_221 (by decide)) rfl ?_
        refine d_st (fun hX _ => g_lv [1, 2, 0] rfl) rfl ?_
        exact h66 r33.2 a0 a1 v34
      · refine d_st (fun hX _ => g_iconst 217 (hX _) 0 dL_still_216 rfl kc_i_0) rfl ?_
        exact d_zretL rfl rfl rfl dL_still_217
    · refine d_st (fun hX _ => g_iconst 194 (hX _) 0 dL_still_193 rfl kc_i_0) rfl ?_
      refine d_st (fun hX _ => g_goto 213 (hX _) dL_still_194 (by decide)) rfl ?_
      refine d_if (fun hX _ => g_icmp_eq 218 216 (hX _) dL_still_213 (by decide) rfl) (fun _ => ?_) (fun _ => ?_)
      · refine d_kl (fun v35 hv35 => ?_)
        refine d_st (fun hX _ => g_iinc 221 2 2 v35 [(2, .int v35), (0, .ref a0), (1, .ref a1), (3, .ref a3)] (hX _) dL_still_218 rfl rfl (by rw [hv35, kc_i_1]) (Nat.le_of_ble_eq_true rfl) rfl) rfl ?_
        refine d_st (fun hX _ => g_goto 66 (hX _) dL_still_221 (by decide)) rfl ?_
        refine d_st (fun hX _ => g_lv [1, 2, 0] rfl) rfl ?_
        exact h66 M a0 a1 v35
      · refine d_st (fun hX _ => g_iconst 217 (hX _) 0 dL_still_216 rfl kc_i_0) rfl ?_
        exact d_zretL rfl rfl rfl dL_still_217
  · refine d_st (fun hX _ => g_iconst 180 (hX _) 0 dL_still_179 rfl kc_i_0) rfl ?_
    exact d_zretL rfl rfl rfl dL_still_180
set_option maxRecDepth 100000 in
set_option maxHeartbeats 4000000 in
theorem k_L_still_66 {l : Launch} {g : kG} {L0 : Nat} (N : Nat) : ∀ (n : Nat) (M : kMem) (a0 : Nat) (a1 : Nat) (x2 : Int32), GD (l, cL_still, 6, RL, g, 9, L0, (some .boolean), yL_still.name) (fun r : Int32 × kMem => (some (.int r.1), r.2)) (F_L_still_66 N n M a0 a1 x2) 66 [(0, .ref a0), (1, .ref a1), (2, .int x2)] [] M := by
  intro n
  induction n with
  | zero => intro _ _ _ _; exact d_none
  | succ n ih =>
    intro M a0 a1 x2
    unfold F_L_still_66
    refine d_st (fun hX _ => g_iload_n 67 2 (hX _) dL_still_66 rfl rfl) rfl ?_
    refine d_st (fun hX _ => g_aload_n 68 1 (hX _) dL_still_67 rfl rfl) rfl ?_
    refine d_g (fun hX _ => e_L_16 71 (hX _) dL_still_68 rfl) rfl ?_
    refine d_callF 76 (k_AL_size l g N M (kR M a1 1)) lk_AL_size_8abf5 (ci := 33) (T := TAL) (N := 3) rfl (Nat.le_of_ble_eq_true rfl) q_916 q_920 (by decide +kernel) (by decide +kernel) (by decide) rfl (Nat.le_of_ble_eq_true rfl) dL_still_71 rfl (fun r7 _ => ?_)
    show GD _ _ _ _ _ [.int r7, .int x2] M
    refine d_ifN (fun hX _ => g_icmp_ge 224 79 (hX _) dL_still_76 (by decide) rfl) (fun _ => ?_) (fun _ => ?_)
    · refine d_st (fun hX _ => g_iconst 225 (hX _) 0 dL_still_224 rfl kc_i_0) rfl ?_
      refine d_st (fun hX _ => g_istore_n 226 2 [(2, .int 0), (0, .ref a0), (1, .ref a1)] (hX _) dL_still_225 rfl rfl (Nat.le_of_ble_eq_true rfl) rfl) rfl ?_
      refine d_st (fun hX _ => g_lv [1, 2, 0] rfl) rfl ?_
      exact k_L_still_226 N N M a0 a1 0
    · refine d_st (fun hX _ => g_aload_n 80 1 (hX _) dL_still_79 rfl rfl) rfl ?_
      refine d_g (fun hX _ => e_L_16 83 (hX _) dL_still_80 rfl) rfl ?_
      refine d_st (fun hX _ => g_iload_n 84 2 (hX _) dL_still_83 rfl rfl) rfl ?_
      refine d_callF 89 (k_AL_get l g N M (kR M a1 1) x2) lk_AL_get_915e3 (ci := 33) (T := TAL) (N := 3) rfl (Nat.le_of_ble_eq_true rfl) q_1091 q_1094 (by decide +kernel) (by decide +kernel) (by decide) rfl (Nat.le_of_ble_eq_true rfl) dL_still_84 rfl (fun r25 _ => ?_)
      show GD _ _ _ _ _ [.ref r25] M
      refine d_g (fun hX _ => g_cast 92 (hX _) (ci := 32) (T := TLT) (N := 7) rfl (Nat.le_of_ble_eq_true rfl) q_1052 dL_still_89 rfl) rfl ?_
      refine d_st (fun hX _ => g_astore_n 93 3 [(3, .ref r25), (0, .ref a0), (1, .ref a1), (2, .int x2)] (hX _) dL_still_92 rfl rfl (Nat.le_of_ble_eq_true rfl) rfl) rfl ?_
      refine d_st (fun hX _ => g_aload_n 94 1 (hX _) dL_still_93 rfl rfl) rfl ?_
      refine d_st (fun hX _ => g_iload_n 95 3 (hX _) dL_still_94 rfl rfl) rfl ?_
      refine d_callX 98 (k_X11_weightOf l g N M a0 x2) lk_X11_weightOf rfl (ci := 11) rfl (Nat.le_of_ble_eq_true rfl) q_1663 q_1665 (by decide) rfl (Nat.le_of_ble_eq_true rfl) dL_still_95 rfl (fun r26 _ hr26 => ?_)
      show GD _ _ _ _ _ (.int r26 :: []) M
      refine d_st (fun hX _ => g_aload_n 99 0 (hX _) dL_still_98 rfl rfl) rfl ?_
      refine d_g (fun hX _ => e_L_158 102 (hX _) dL_still_99 rfl) rfl ?_
      refine d_ifN (fun hX _ => g_icmp_ne 179 105 (hX _) dL_still_102 (by decide) rfl) (fun _ => ?_) (fun _ => ?_)
      · refine d_st (fun hX _ => g_iconst 180 (hX _) 0 dL_still_179 rfl kc_i_0) rfl ?_
        exact d_zretL rfl rfl rfl dL_still_180
      · refine d_st (fun hX _ => g_aload_n 106 1 (hX _) dL_still_105 rfl rfl) rfl ?_
        refine d_st (fun hX _ => g_iload_n 107 3 (hX _) dL_still_106 rfl rfl) rfl ?_
        refine d_callX 110 (k_X11_purseOf l g N M a0 x2) lk_X11_purseOf rfl (ci := 11) rfl (Nat.le_of_ble_eq_true rfl) q_1688 q_1690 (by decide) rfl (Nat.le_of_ble_eq_true rfl) dL_still_107 rfl (fun r27 _ hr27 => ?_)
        show GD _ _ _ _ _ (.int r27 :: []) M
        refine d_st (fun hX _ => g_aload_n 111 0 (hX _) dL_still_110 rfl rfl) rfl ?_
        refine d_g (fun hX _ => e_L_77 114 (hX _) dL_still_111 rfl) rfl ?_
        refine d_ifN (fun hX _ => g_icmp_ne 179 117 (hX _) dL_still_114 (by decide) rfl) (fun _ => ?_) (fun _ => ?_)
        · refine d_st (fun hX _ => g_iconst 180 (hX _) 0 dL_still_179 rfl kc_i_0) rfl ?_
          exact d_zretL rfl rfl rfl dL_still_180
        · refine d_st (fun hX _ => g_aload_n 118 1 (hX _) dL_still_117 rfl rfl) rfl ?_
          refine d_st (fun hX _ => g_iload_n 119 3 (hX _) dL_still_118 rfl rfl) rfl ?_
          refine d_callX 122 (k_X11_ageOf l g N M a0 x2) lk_X11_ageOf rfl (ci := 11) rfl (Nat.le_of_ble_eq_true rfl) q_1692 q_1694 (by decide) rfl (Nat.le_of_ble_eq_true rfl) dL_still_119 rfl (fun r28 _ hr28 => ?_)
          show GD _ _ _ _ _ (.int r28 :: []) M
          refine d_st (fun hX _ => g_aload_n 123 0 (hX _) dL_still_122 rfl rfl) rfl ?_
          refine d_g (fun hX _ => e_L_103 126 (hX _) dL_still_123 rfl) rfl ?_
          refine d_ifN (fun hX _ => g_icmp_ne 179 129 (hX _) dL_still_126 (by decide) rfl) (fun _ => ?_) (fun _ => ?_)
          · refine d_st (fun hX _ => g_iconst 180 (hX _) 0 dL_still_179 rfl kc_i_0) rfl ?_
            exact d_zretL rfl rfl rfl dL_still_180
          · refine d_st (fun hX _ => g_aload_n 130 1 (hX _) dL_still_129 rfl rfl) rfl ?_
            refine d_st (fun hX _ => g_iload_n 131 3 (hX _) dL_still_130 rfl rfl) rfl ?_
            refine d_callX 134 (k_X11_isPresent l g N M a0 x2) lk_X11_isPresent rfl (ci := 11) rfl (Nat.le_of_ble_eq_true rfl) q_1696 q_1698 (by decide) rfl (Nat.le_of_ble_eq_true rfl) dL_still_131 rfl (fun r29 _ hr29 => ?_)
            show GD _ _ _ _ _ (.int r29 :: []) M
            refine d_st (fun hX _ => g_aload_n 135 0 (hX _) dL_still_134 rfl rfl) rfl ?_
            refine d_g (fun hX _ => e_L_99 138 (hX _) dL_still_135 rfl) rfl ?_
            refine d_ifN (fun hX _ => g_icmp_ne 179 141 (hX _) dL_still_138 (by decide) rfl) (fun _ => ?_) (fun _ => ?_)
            · refine d_st (fun hX _ => g_iconst 180 (hX _) 0 dL_still_179 rfl kc_i_0) rfl ?_
              exact d_zretL rfl rfl rfl dL_still_180
            · refine d_st (fun hX _ => g_aload_n 142 1 (hX _) dL_still_141 rfl rfl) rfl ?_
              refine d_st (fun hX _ => g_iload_n 143 3 (hX _) dL_still_142 rfl rfl) rfl ?_
              refine d_callX 146 (k_X11_positionOf l g N M a0 x2) lk_X11_positionOf rfl (ci := 11) rfl (Nat.le_of_ble_eq_true rfl) q_1700 q_1702 (by decide) rfl (Nat.le_of_ble_eq_true rfl) dL_still_143 rfl (fun r30 _ hr30 => ?_)
              show GD _ _ _ _ _ (.int r30 :: []) M
              refine d_st (fun hX _ => g_aload_n 147 0 (hX _) dL_still_146 rfl rfl) rfl ?_
              refine d_g (fun hX _ => e_L_68 150 (hX _) dL_still_147 rfl) rfl ?_
              refine d_ifN (fun hX _ => g_icmp_ne 179 153 (hX _) dL_still_150 (by decide) rfl) (fun _ => ?_) (fun _ => ?_)
              · refine d_st (fun hX _ => g_iconst 180 (hX _) 0 dL_still_179 rfl kc_i_0) rfl ?_
                exact d_zretL rfl rfl rfl dL_still_180
              · refine d_st (fun hX _ => g_aload_n 154 1 (hX _) dL_still_153 rfl rfl) rfl ?_
                refine d_st (fun hX _ => g_iload_n 155 3 (hX _) dL_still_154 rfl rfl) rfl ?_
                refine d_callX 158 (k_X11_boardOf l g N M a0 x2) lk_X11_boardOf rfl (ci := 11) rfl (Nat.le_of_ble_eq_true rfl) q_1704 q_1706 (by decide) rfl (Nat.le_of_ble_eq_true rfl) dL_still_155 rfl (fun r31 _ hr31 => ?_)
                show GD _ _ _ _ _ (.int r31 :: []) M
                refine d_st (fun hX _ => g_aload_n 159 0 (hX _) dL_still_158 rfl rfl) rfl ?_
                refine d_g (fun hX _ => e_L_62 162 (hX _) dL_still_159 rfl) rfl ?_
                refine d_ifN (fun hX _ => g_ifnonnull 169 165 (hX _) dL_still_162 (by decide) rfl) (fun _ => ?_) (fun _ => ?_)
                · refine d_st (fun hX _ => g_aload_n 170 0 (hX _) dL_still_169 rfl rfl) rfl ?_
                  refine d_g (fun hX _ => e_L_62 173 (hX _) dL_still_170 rfl) rfl ?_
                  refine d_g (fun hX _ => e_L_238 176 (hX _) dL_still_173 rfl) rfl ?_
                  refine d_st (fun hX _ => g_lv [1, 2, 3, 0] rfl) rfl ?_
                  exact k_L_still_176 N (fun M a0 a1 x2 => F_L_still_66 N n M a0 a1 x2) ih M a0 a1 x2 r25 r31 (kI M (kR M r25 6) 0)
                · refine d_st (fun hX _ => g_iconst 166 (hX _) (-1) dL_still_165 rfl kc_i_m1) rfl ?_
                  refine d_st (fun hX _ => g_goto 176 (hX _) dL_still_166 (by decide)) rfl ?_
                  refine d_st (fun hX _ => g_lv [1, 2, 3, 0] rfl) rfl ?_
                  exact k_L_still_176 N (fun M a0 a1 x2 => F_L_still_66 N n M a0 a1 x2) ih M a0 a1 x2 r25 r31 (-1)
set_option maxRecDepth 100000 in
set_option maxHeartbeats 4000000 in
theorem k_L_still (l : Launch) (g : kG) (N : Nat) (M : kMem) (a0 : Nat) (a1 : Nat) : kMetD l g yL_still cL_still 6 (some .boolean) 9 [.ref a0, .ref a1] M (fun r : Int32 × kMem => (some (.int r.1), r.2)) (F_L_still N M a0 a1) := by
  refine k_ofD (lv := [(0, .ref a0), (1, .ref a1)]) RL (by decide) rfl rfl (Nat.le_of_ble_eq_true rfl) ?_
  unfold F_L_still
  refine d_st (fun hX _ => g_aload_n 1 0 (hX _) dL_still_0 rfl rfl) rfl ?_
  refine d_callX 4 (k_X11_contradictions l g N M a0) lk_X11_contradictions rfl (ci := 11) rfl (Nat.le_of_ble_eq_true rfl) q_1609 q_1611 (by decide) rfl (Nat.le_of_ble_eq_true rfl) dL_still_1 rfl (fun r1 _ hr1 => ?_)
  show GD _ _ _ _ _ (.int r1 :: []) M
  refine d_ifN (fun hX _ => g_if_ne 62 7 (hX _) dL_still_4 (by decide) rfl) (fun _ => ?_) (fun _ => ?_)
  · refine d_st (fun hX _ => g_iconst 63 (hX _) 0 dL_still_62 rfl kc_i_0) rfl ?_
    exact d_zretL rfl rfl rfl dL_still_63
  · refine d_st (fun hX _ => g_aload_n 8 0 (hX _) dL_still_7 rfl rfl) rfl ?_
    refine d_callX 11 (k_X11_day l g N M a0) lk_X11_day rfl (ci := 11) rfl (Nat.le_of_ble_eq_true rfl) q_1643 q_1645 (by decide) rfl (Nat.le_of_ble_eq_true rfl) dL_still_8 rfl (fun r2 _ hr2 => ?_)
    show GD _ _ _ _ _ (.int r2 :: []) M
    refine d_st (fun hX _ => g_aload_n 12 1 (hX _) dL_still_11 rfl rfl) rfl ?_
    refine d_g (fun hX _ => e_L_80 15 (hX _) dL_still_12 rfl) rfl ?_
    refine d_ifN (fun hX _ => g_icmp_ne 62 18 (hX _) dL_still_15 (by decide) rfl) (fun _ => ?_) (fun _ => ?_)
    · refine d_st (fun hX _ => g_iconst 63 (hX _) 0 dL_still_62 rfl kc_i_0) rfl ?_
      exact d_zretL rfl rfl rfl dL_still_63
    · refine d_st (fun hX _ => g_aload_n 19 0 (hX _) dL_still_18 rfl rfl) rfl ?_
      refine d_callX 22 (k_X11_bank l g N M a0) lk_X11_bank rfl (ci := 11) rfl (Nat.le_of_ble_eq_true rfl) q_1647 q_1649 (by decide) rfl (Nat.le_of_ble_eq_true rfl) dL_still_19 rfl (fun r3 _ hr3 => ?_)
      show GD _ _ _ _ _ (.int r3 :: []) M
      refine d_st (fun hX _ => g_aload_n 23 1 (hX _) dL_still_22 rfl rfl) rfl ?_
      refine d_g (fun hX _ => e_L_71 26 (hX _) dL_still_23 rfl) rfl ?_
      refine d_ifN (fun hX _ => g_icmp_ne 62 29 (hX _) dL_still_26 (by decide) rfl) (fun _ => ?_) (fun _ => ?_)
      · refine d_st (fun hX _ => g_iconst 63 (hX _) 0 dL_still_62 rfl kc_i_0) rfl ?_
        exact d_zretL rfl rfl rfl dL_still_63
      · refine d_st (fun hX _ => g_aload_n 30 0 (hX _) dL_still_29 rfl rfl) rfl ?_
        refine d_callX 33 (k_X11_seatsSold l g N M a0) lk_X11_seatsSold rfl (ci := 11) rfl (Nat.le_of_ble_eq_true rfl) q_1651 q_1653 (by decide) rfl (Nat.le_of_ble_eq_true rfl) dL_still_30 rfl (fun r4 _ hr4 => ?_)
        show GD _ _ _ _ _ (.int r4 :: []) M
        refine d_st (fun hX _ => g_aload_n 34 1 (hX _) dL_still_33 rfl rfl) rfl ?_
        refine d_g (fun hX _ => e_L_267 37 (hX _) dL_still_34 rfl) rfl ?_
        refine d_ifN (fun hX _ => g_icmp_ne 62 40 (hX _) dL_still_37 (by decide) rfl) (fun _ => ?_) (fun _ => ?_)
        · refine d_st (fun hX _ => g_iconst 63 (hX _) 0 dL_still_62 rfl kc_i_0) rfl ?_
          exact d_zretL rfl rfl rfl dL_still_63
        · refine d_st (fun hX _ => g_aload_n 41 0 (hX _) dL_still_40 rfl rfl) rfl ?_
          refine d_callX 44 (k_X11_weightSold l g N M a0) lk_X11_weightSold rfl (ci := 11) rfl (Nat.le_of_ble_eq_true rfl) q_1655 q_1657 (by decide) rfl (Nat.le_of_ble_eq_true rfl) dL_still_41 rfl (fun r5 _ hr5 => ?_)
          show GD _ _ _ _ _ (.int r5 :: []) M
          refine d_st (fun hX _ => g_aload_n 45 1 (hX _) dL_still_44 rfl rfl) rfl ?_
          refine d_g (fun hX _ => e_L_273 48 (hX _) dL_still_45 rfl) rfl ?_
          refine d_ifN (fun hX _ => g_icmp_ne 62 51 (hX _) dL_still_48 (by decide) rfl) (fun _ => ?_) (fun _ => ?_)
          · refine d_st (fun hX _ => g_iconst 63 (hX _) 0 dL_still_62 rfl kc_i_0) rfl ?_
            exact d_zretL rfl rfl rfl dL_still_63
          · refine d_st (fun hX _ => g_aload_n 52 0 (hX _) dL_still_51 rfl rfl) rfl ?_
            refine d_callX 55 (k_X11_fallCount l g N M a0) lk_X11_fallCount rfl (ci := 11) rfl (Nat.le_of_ble_eq_true rfl) q_1659 q_1661 (by decide) rfl (Nat.le_of_ble_eq_true rfl) dL_still_52 rfl (fun r6 _ hr6 => ?_)
            show GD _ _ _ _ _ (.int r6 :: []) M
            refine d_st (fun hX _ => g_aload_n 56 1 (hX _) dL_still_55 rfl rfl) rfl ?_
            refine d_g (fun hX _ => e_L_83 59 (hX _) dL_still_56 rfl) rfl ?_
            refine d_if (fun hX _ => g_icmp_eq 64 62 (hX _) dL_still_59 (by decide) rfl) (fun _ => ?_) (fun _ => ?_)
            · refine d_st (fun hX _ => g_iconst 65 (hX _) 0 dL_still_64 rfl kc_i_0) rfl ?_
              refine d_st (fun hX _ => g_istore_n 66 2 [(2, .int 0), (0, .ref a0), (1, .ref a1)] (hX _) dL_still_65 rfl rfl (Nat.le_of_ble_eq_true rfl) rfl) rfl ?_
              refine d_st (fun hX _ => g_lv [1, 2, 0] rfl) rfl ?_
              exact k_L_still_66 N N M a0 a1 0
            · refine d_st (fun hX _ => g_iconst 63 (hX _) 0 dL_still_62 rfl kc_i_0) rfl ?_
              exact d_zretL rfl rfl rfl dL_still_63
set_option maxRecDepth 100000 in
set_option maxHeartbeats 4000000 in
theorem k_AL_grow1_20 {l : Launch} {g : kG} {L0 : Nat} (N : Nat) : ∀ (M : kMem) (a0 : Nat) (x1 : Int32) (x2 : Int32), GD (l, cAL_grow_92f84, 4, RAL, g, 3, L0, (some (.array (.object "java/lang/Object"))), yAL_grow_92f84.name) (fun r : Nat × kMem => (some (.ref r.1), r.2)) (F_AL_grow1_20 N M a0 x1 x2) 20 [(0, .ref a0), (1, .int x1), (2, .int x2)] [] M := by
  intro M a0 x1 x2
  unfold F_AL_grow1_20
  refine d_st (fun hX _ => g_iload_n 21 2 (hX _) dAL_grow_92f84_20 rfl rfl) rfl ?_
  refine d_st (fun hX _ => g_iload_n 22 1 (hX _) dAL_grow_92f84_21 rfl rfl) rfl ?_
  refine d_st (fun hX _ => g_iload_n 23 2 (hX _) dAL_grow_92f84_22 rfl rfl) rfl ?_
  refine d_st (fun hX _ => g_isub 24 (hX _) dAL_grow_92f84_23 rfl) rfl ?_
  refine d_st (fun hX _ => g_iload_n 25 2 (hX _) dAL_grow_92f84_24 rfl rfl) rfl ?_
  refine d_st (fun hX _ => g_iconst 26 (hX _) 1 dAL_grow_92f84_25 rfl kc_i_1) rfl ?_
  refine d_st (fun hX _ => g_ishr 27 (hX _) dAL_grow_92f84_26 rfl) rfl ?_
  refine d_callS 30 (k_AX_newLength l g N M x2 (x1 - x2) (x2 >>> (1 &&& 31))) lk_AX_newLength_cabcc q_1007 (by decide) rfl (Nat.le_of_ble_eq_true rfl) dAL_grow_92f84_27 rfl (fun r1 _ => ?_)
  show GD _ _ _ _ _ [.int r1] M
  refine d_st (fun hX _ => g_istore_n 31 3 [(3, .int r1), (0, .ref a0), (1, .int x1), (2, .int x2)] (hX _) dAL_grow_92f84_30 rfl rfl (Nat.le_of_ble_eq_true rfl) rfl) rfl ?_
  refine d_st (fun hX _ => g_aload_n 32 1 (hX _) dAL_grow_92f84_31 rfl rfl) rfl ?_
  refine d_st (fun hX _ => g_aload_n 33 1 (hX _) dAL_grow_92f84_32 rfl rfl) rfl ?_
  refine d_getE (fun hX _ => e_AL_9 36 (hX _) dAL_grow_92f84_33 rfl) (fun _ => ?_) (fun _ => ?_)
  · exact d_none
  · exact d_none
set_option maxRecDepth 100000 in
set_option maxHeartbeats 4000000 in
theorem k_AL_grow1 (l : Launch) (g : kG) (N : Nat) (M : kMem) (a0 : Nat) (x1 : Int32) : kMetD l g yAL_grow_92f84 cAL_grow_92f84 4 (some (.array (.object "java/lang/Object"))) 3 [.ref a0, .int x1] M (fun r : Nat × kMem => (some (.ref r.1), r.2)) (F_AL_grow1 N M a0 x1) := by
  refine k_ofD (lv := [(0, .ref a0), (1, .int x1)]) RAL (by decide) rfl rfl (Nat.le_of_ble_eq_true rfl) ?_
  unfold F_AL_grow1
  refine d_st (fun hX _ => g_aload_n 1 0 (hX _) dAL_grow_92f84_0 rfl rfl) rfl ?_
  refine d_getE (fun hX _ => e_AL_9 4 (hX _) dAL_grow_92f84_1 rfl) (fun _ => ?_) (fun _ => ?_)
  · refine d_st (fun hX _ => g_elen 5 (hX _) dAL_grow_92f84_4 rfl) rfl ?_
    refine d_st (fun hX _ => g_istore_n 6 2 [(2, .int 0), (0, .ref a0), (1, .int x1)] (hX _) dAL_grow_92f84_5 rfl rfl (Nat.le_of_ble_eq_true rfl) rfl) rfl ?_
    refine d_st (fun hX _ => g_iload_n 7 0 (hX _) dAL_grow_92f84_6 rfl rfl) rfl ?_
    refine d_if (fun hX _ => g_if_gt 20 10 (hX _) dAL_grow_92f84_7 (by decide) rfl) (fun _ => ?_) (fun _ => ?_)
    · refine d_st (fun hX _ => g_lv [1, 2, 0] rfl) rfl ?_
      exact k_AL_grow1_20 N M a0 x1 0
    · refine d_st (fun hX _ => g_aload_n 11 1 (hX _) dAL_grow_92f84_10 rfl rfl) rfl ?_
      refine d_getE (fun hX _ => e_AL_9 14 (hX _) dAL_grow_92f84_11 rfl) (fun _ => ?_) (fun _ => ?_)
      · refine d_st (fun hX _ => g_gsEmpty 17 (hX _) q_682 dAL_grow_92f84_14 rfl) rfl ?_
        refine d_st (fun hX _ => g_acmpE 45 (hX _) dAL_grow_92f84_17 (by decide)) rfl ?_
        refine d_st (fun hX _ => g_aload_n 46 1 (hX _) dAL_grow_92f84_45 rfl rfl) rfl ?_
        refine d_st (fun hX _ => g_bipush 48 (hX _) 10 dAL_grow_92f84_46 rfl kc_b_10) rfl ?_
        refine d_st (fun hX _ => g_iload_n 49 2 (hX _) dAL_grow_92f84_48 rfl rfl) rfl ?_
        refine d_stR (fun hX _ hRc hRs => g_mmax 52 (hX _) q_1048 dAL_grow_92f84_49 rfl (Nat.le_of_ble_eq_true rfl) (by decide) hRc hRs) rfl ?_
        refine d_anewaO 55 q_1049 dAL_grow_92f84_52 rfl ?_
        refine d_klR (fun w2 hw2 => ?_)
        refine d_klM (fun M3 hM3 => ?_)
        refine d_st (fun hX _ => g_dup_x1 56 (hX _) dAL_grow_92f84_55 rfl rfl rfl) rfl ?_
        refine d_g (fun hX _ => ue_AL_9 59 (hX _) dAL_grow_92f84_56 rfl) rfl ?_
        refine d_klM (fun M4 hM4 => ?_)
        exact d_aret rfl (Or.inr ⟨_, rfl⟩) rfl dAL_grow_92f84_59
      · exact d_none
  · refine d_g (fun hX _ => g_alenR 21 7 5 (hX _) "java/lang/Object" (Nat.le_of_ble_eq_true rfl) rfl dAL_grow_92f84_4 rfl) rfl ?_
    refine d_klI (fun v5 hv5 => ?_)
    refine d_st (fun hX _ => g_istore_n 6 2 [(2, .int v5), (0, .ref a0), (1, .int x1)] (hX _) dAL_grow_92f84_5 rfl rfl (Nat.le_of_ble_eq_true rfl) rfl) rfl ?_
    refine d_st (fun hX _ => g_iload_n 7 0 (hX _) dAL_grow_92f84_6 rfl rfl) rfl ?_
    refine d_if (fun hX _ => g_if_gt 20 10 (hX _) dAL_grow_92f84_7 (by decide) rfl) (fun _ => ?_) (fun _ => ?_)
    · refine d_st (fun hX _ => g_lv [1, 2, 0] rfl) rfl ?_
      exact k_AL_grow1_20 N M a0 x1 v5
    · refine d_st (fun hX _ => g_aload_n 11 1 (hX _) dAL_grow_92f84_10 rfl rfl) rfl ?_
      refine d_getE (fun hX _ => e_AL_9 14 (hX _) dAL_grow_92f84_11 rfl) (fun _ => ?_) (fun _ => ?_)
      · refine d_st (fun hX _ => g_gsEmpty 17 (hX _) q_682 dAL_grow_92f84_14 rfl) rfl ?_
        refine d_st (fun hX _ => g_acmpE 45 (hX _) dAL_grow_92f84_17 (by decide)) rfl ?_
        refine d_st (fun hX _ => g_aload_n 46 1 (hX _) dAL_grow_92f84_45 rfl rfl) rfl ?_
        refine d_st (fun hX _ => g_bipush 48 (hX _) 10 dAL_grow_92f84_46 rfl kc_b_10) rfl ?_
        refine d_st (fun hX _ => g_iload_n 49 2 (hX _) dAL_grow_92f84_48 rfl rfl) rfl ?_
        refine d_stR (fun hX _ hRc hRs => g_mmax 52 (hX _) q_1048 dAL_grow_92f84_49 rfl (Nat.le_of_ble_eq_true rfl) (by decide) hRc hRs) rfl ?_
        refine d_anewaO 55 q_1049 dAL_grow_92f84_52 rfl ?_
        refine d_klR (fun w6 hw6 => ?_)
        refine d_klM (fun M7 hM7 => ?_)
        refine d_st (fun hX _ => g_dup_x1 56 (hX _) dAL_grow_92f84_55 rfl rfl rfl) rfl ?_
        refine d_g (fun hX _ => ue_AL_9 59 (hX _) dAL_grow_92f84_56 rfl) rfl ?_
        refine d_klM (fun M8 hM8 => ?_)
        exact d_aret rfl (Or.inr ⟨_, rfl⟩) rfl dAL_grow_92f84_59
      · exact d_none
