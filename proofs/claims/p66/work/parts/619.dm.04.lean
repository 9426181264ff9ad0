set_option maxRecDepth 100000 in
set_option maxHeartbeats 4000000 in
theorem k_AL_grow (l : Launch) (g : kG) (N : Nat) (M : kMem) (a0 : Nat) : kMetD l g yAL_grow_d5877 cAL_grow_d5877 1 (some (.array (.object "java/lang/Object"))) 4 [.ref a0] M (fun r : Nat × kMem => (some (.ref r.1), r.2)) (F_AL_grow N M a0) := by
  refine k_ofD (lv := [(0, .ref a0)]) RAL (by decide) rfl rfl (Nat.le_of_ble_eq_true rfl) ?_
  unfold F_AL_grow
  refine d_st (fun hX _ => g_aload_n 1 0 (hX _) dAL_grow_d5877_0 rfl rfl) rfl ?_
  refine d_st (fun hX _ => g_aload_n 2 0 (hX _) dAL_grow_d5877_1 rfl rfl) rfl ?_
  refine d_g (fun hX _ => e_AL_48 5 (hX _) dAL_grow_d5877_2 rfl) rfl ?_
  refine d_st (fun hX _ => g_iconst 6 (hX _) 1 dAL_grow_d5877_5 rfl kc_i_1) rfl ?_
  refine d_st (fun hX _ => g_iadd 7 (hX _) dAL_grow_d5877_6 rfl) rfl ?_
  refine d_callV 10 (k_AL_grow1 l g N M a0 ((kI M a0 2) + 1)) lk_AL_grow_92f84 (ci := 33) (T := TAL) (N := 3) rfl (Nat.le_of_ble_eq_true rfl) q_1003 (fun s args ht => ht _ q_9) (by decide) rfl (Nat.le_of_ble_eq_true rfl) dAL_grow_d5877_7 rfl (fun r1 _ => ?_)
  show GD _ _ _ _ _ [.ref r1.1] r1.2
  exact d_aret rfl (Or.inr ⟨_, rfl⟩) rfl dAL_grow_d5877_10
set_option maxRecDepth 100000 in
set_option maxHeartbeats 4000000 in
theorem k_AL_add3E (l : Launch) (g : kG) (N : Nat) (M : kMem) (a0 : Nat) (a1 : Nat) (x3 : Int32) : kMetD l g yAL_add_72be8 cAL_add_72be8 4 none 5 [.ref a0, .ref a1, .retAddr (g.1 1999), .int x3] M (fun r : kMem => (none, r)) (F_AL_add3E N M a0 a1 x3) := by
  refine k_ofD (lv := [(0, .ref a0), (1, .ref a1), (2, .retAddr (g.1 1999)), (3, .int x3)]) RAL (by decide) rfl rfl (Nat.le_of_ble_eq_true rfl) ?_
  unfold F_AL_add3E
  refine d_st (fun hX _ => g_iload_n 1 3 (hX _) dAL_add_72be8_0 rfl rfl) rfl ?_
  refine d_st (fun hX _ => g_aloadS_n 2 2 (hX _) dAL_add_72be8_1 rfl rfl) rfl ?_
  refine d_st (fun hX _ => g_elen 3 (hX _) dAL_add_72be8_2 rfl) rfl ?_
  refine d_ifN (fun hX _ => g_icmp_ne 11 6 (hX _) dAL_add_72be8_3 (by decide) rfl) (fun _ => ?_) (fun _ => ?_)
  · exact d_none
  · refine d_st (fun hX _ => g_aload_n 7 0 (hX _) dAL_add_72be8_6 rfl rfl) rfl ?_
    refine d_callV 10 (k_AL_grow l g N M a0) lk_AL_grow_d5877 (ci := 33) (T := TAL) (N := 3) rfl (Nat.le_of_ble_eq_true rfl) q_999 (fun s args ht => ht _ q_8) (by decide) rfl (Nat.le_of_ble_eq_true rfl) dAL_add_72be8_7 rfl (fun r1 _ => ?_)
    show GD _ _ _ _ _ [.ref r1.1] r1.2
    refine d_klR (fun w2 hw2 => ?_)
    refine d_st (fun hX _ => g_astore_n 11 2 [(2, .ref w2), (0, .ref a0), (1, .ref a1), (3, .int x3)] (hX _) dAL_add_72be8_10 rfl rfl (Nat.le_of_ble_eq_true rfl) rfl) rfl ?_
    refine d_st (fun hX _ => g_aload_n 12 0 (hX _) dAL_add_72be8_11 rfl rfl) rfl ?_
    refine d_st (fun hX _ => g_iload_n 13 3 (hX _) dAL_add_72be8_12 rfl rfl) rfl ?_
    refine d_st (fun hX _ => g_aload_n 14 2 (hX _) dAL_add_72be8_13 rfl rfl) rfl ?_
    refine d_g (fun hX _ => g_aastBT 15 (hX _) dAL_add_72be8_14 rfl) rfl ?_
    refine d_klM (fun M3 hM3 => ?_)
    refine d_st (fun hX _ => g_aload_n 16 1 (hX _) dAL_add_72be8_15 rfl rfl) rfl ?_
    refine d_st (fun hX _ => g_iload_n 17 3 (hX _) dAL_add_72be8_16 rfl rfl) rfl ?_
    refine d_st (fun hX _ => g_iconst 18 (hX _) 1 dAL_add_72be8_17 rfl kc_i_1) rfl ?_
    refine d_st (fun hX _ => g_iadd 19 (hX _) dAL_add_72be8_18 rfl) rfl ?_
    refine d_g (fun hX _ => ui_AL_48 22 (hX _) dAL_add_72be8_19 rfl) rfl ?_
    refine d_klM (fun M4 hM4 => ?_)
    exact d_vret rfl rfl dAL_add_72be8_22
set_option maxRecDepth 100000 in
set_option maxHeartbeats 4000000 in
theorem k_AL_add3R (l : Launch) (g : kG) (N : Nat) (M : kMem) (a0 : Nat) (a1 : Nat) (a2 : Nat) (x3 : Int32) : kMetD l g yAL_add_72be8 cAL_add_72be8 4 none 5 [.ref a0, .ref a1, .ref a2, .int x3] M (fun r : kMem => (none, r)) (F_AL_add3R N M a0 a1 a2 x3) := by
  refine k_ofD (lv := [(0, .ref a0), (1, .ref a1), (2, .ref a2), (3, .int x3)]) RAL (by decide) rfl rfl (Nat.le_of_ble_eq_true rfl) ?_
  unfold F_AL_add3R
  refine d_st (fun hX _ => g_iload_n 1 3 (hX _) dAL_add_72be8_0 rfl rfl) rfl ?_
  refine d_st (fun hX _ => g_aload_n 2 2 (hX _) dAL_add_72be8_1 rfl rfl) rfl ?_
  refine d_g (fun hX _ => g_alenR 21 7 3 (hX _) "java/lang/Object" (Nat.le_of_ble_eq_true rfl) rfl dAL_add_72be8_2 rfl) rfl ?_
  refine d_ifN (fun hX _ => g_icmp_ne 11 6 (hX _) dAL_add_72be8_3 (by decide) rfl) (fun _ => ?_) (fun _ => ?_)
  · refine d_st (fun hX _ => g_aload_n 12 2 (hX _) dAL_add_72be8_11 rfl rfl) rfl ?_
    refine d_st (fun hX _ => g_iload_n 13 3 (hX _) dAL_add_72be8_12 rfl rfl) rfl ?_
    refine d_st (fun hX _ => g_aload_n 14 1 (hX _) dAL_add_72be8_13 rfl rfl) rfl ?_
    refine d_g (fun hX _ => g_aastBT 15 (hX _) dAL_add_72be8_14 rfl) rfl ?_
    refine d_klM (fun M1 hM1 => ?_)
    refine d_st (fun hX _ => g_aload_n 16 0 (hX _) dAL_add_72be8_15 rfl rfl) rfl ?_
    refine d_st (fun hX _ => g_iload_n 17 3 (hX _) dAL_add_72be8_16 rfl rfl) rfl ?_
    refine d_st (fun hX _ => g_iconst 18 (hX _) 1 dAL_add_72be8_17 rfl kc_i_1) rfl ?_
    refine d_st (fun hX _ => g_iadd 19 (hX _) dAL_add_72be8_18 rfl) rfl ?_
    refine d_g (fun hX _ => ui_AL_48 22 (hX _) dAL_add_72be8_19 rfl) rfl ?_
    refine d_klM (fun M2 hM2 => ?_)
    exact d_vret rfl rfl dAL_add_72be8_22
  · refine d_st (fun hX _ => g_aload_n 7 0 (hX _) dAL_add_72be8_6 rfl rfl) rfl ?_
    refine d_callV 10 (k_AL_grow l g N M a0) lk_AL_grow_d5877 (ci := 33) (T := TAL) (N := 3) rfl (Nat.le_of_ble_eq_true rfl) q_999 (fun s args ht => ht _ q_8) (by decide) rfl (Nat.le_of_ble_eq_true rfl) dAL_add_72be8_7 rfl (fun r3 _ => ?_)
    show GD _ _ _ _ _ [.ref r3.1] r3.2
    refine d_klR (fun w4 hw4 => ?_)
    refine d_st (fun hX _ => g_astore_n 11 2 [(2, .ref w4), (0, .ref a0), (1, .ref a1), (3, .int x3)] (hX _) dAL_add_72be8_10 rfl rfl (Nat.le_of_ble_eq_true rfl) rfl) rfl ?_
    refine d_st (fun hX _ => g_aload_n 12 0 (hX _) dAL_add_72be8_11 rfl rfl) rfl ?_
    refine d_st (fun hX _ => g_iload_n 13 3 (hX _) dAL_add_72be8_12 rfl rfl) rfl ?_
    refine d_st (fun hX _ => g_aload_n 14 2 (hX _) dAL_add_72be8_13 rfl rfl) rfl ?_
    refine d_g (fun hX _ => g_aastBT 15 (hX _) dAL_add_72be8_14 rfl) rfl ?_
    refine d_klM (fun M5 hM5 => ?_)
    refine d_st (fun hX _ => g_aload_n 16 1 (hX _) dAL_add_72be8_15 rfl rfl) rfl ?_
    refine d_st (fun hX _ => g_iload_n 17 3 (hX _) dAL_add_72be8_16 rfl rfl) rfl ?_
    refine d_st (fun hX _ => g_iconst 18 (hX _) 1 dAL_add_72be8_17 rfl kc_i_1) rfl ?_
    refine d_st (fun hX _ => g_iadd 19 (hX _) dAL_add_72be8_18 rfl) rfl ?_
    refine d_g (fun hX _ => ui_AL_48 22 (hX _) dAL_add_72be8_19 rfl) rfl ?_
    refine d_klM (fun M6 hM6 => ?_)
    exact d_vret rfl rfl dAL_add_72be8_22
set_option maxRecDepth 100000 in
set_option maxHeartbeats 4000000 in
theorem k_AL_add (l : Launch) (g : kG) (N : Nat) (M : kMem) (a0 : Nat) (a1 : Nat) : kMetD l g yAL_add_9ea2d cAL_add_9ea2d 2 (some .boolean) 6 [.ref a0, .ref a1] M (fun r : Int32 × kMem => (some (.int r.1), r.2)) (F_AL_add N M a0 a1) := by
  refine k_ofD (lv := [(0, .ref a0), (1, .ref a1)]) RAL (by decide) rfl rfl (Nat.le_of_ble_eq_true rfl) ?_
  unfold F_AL_add
  refine d_st (fun hX _ => g_aload_n 1 0 (hX _) dAL_add_9ea2d_0 rfl rfl) rfl ?_
  refine d_st (fun hX _ => g_dup 2 (hX _) dAL_add_9ea2d_1 rfl rfl) rfl ?_
  refine d_g (fun hX _ => e_AL_63 5 (hX _) dAL_add_9ea2d_2 rfl) rfl ?_
  refine d_st (fun hX _ => g_iconst 6 (hX _) 1 dAL_add_9ea2d_5 rfl kc_i_1) rfl ?_
  refine d_st (fun hX _ => g_iadd 7 (hX _) dAL_add_9ea2d_6 rfl) rfl ?_
  refine d_g (fun hX _ => ui_AL_63 10 (hX _) dAL_add_9ea2d_7 rfl) rfl ?_
  refine d_klM (fun M1 hM1 => ?_)
  refine d_st (fun hX _ => g_aload_n 11 0 (hX _) dAL_add_9ea2d_10 rfl rfl) rfl ?_
  refine d_st (fun hX _ => g_aload_n 12 1 (hX _) dAL_add_9ea2d_11 rfl rfl) rfl ?_
  refine d_st (fun hX _ => g_aload_n 13 0 (hX _) dAL_add_9ea2d_12 rfl rfl) rfl ?_
  refine d_getE (fun hX _ => e_AL_9 16 (hX _) dAL_add_9ea2d_13 rfl) (fun _ => ?_) (fun _ => ?_)
  · refine d_st (fun hX _ => g_aload_n 17 0 (hX _) dAL_add_9ea2d_16 rfl rfl) rfl ?_
    refine d_g (fun hX _ => e_AL_48 20 (hX _) dAL_add_9ea2d_17 rfl) rfl ?_
    refine d_callV 23 (k_AL_add3E l g N M1 a0 a1 (kI M1 a0 2)) lk_AL_add_72be8 (ci := 33) (T := TAL) (N := 3) rfl (Nat.le_of_ble_eq_true rfl) q_995 (fun s args ht => ht _ q_7) (by decide) rfl (Nat.le_of_ble_eq_true rfl) dAL_add_9ea2d_20 rfl (fun r2 _ => ?_)
    show GD _ _ _ _ _ [] r2
    refine d_st (fun hX _ => g_iconst 24 (hX _) 1 dAL_add_9ea2d_23 rfl kc_i_1) rfl ?_
    exact d_zretL rfl rfl rfl dAL_add_9ea2d_24
  · refine d_st (fun hX _ => g_aload_n 17 0 (hX _) dAL_add_9ea2d_16 rfl rfl) rfl ?_
    refine d_g (fun hX _ => e_AL_48 20 (hX _) dAL_add_9ea2d_17 rfl) rfl ?_
    refine d_callV 23 (k_AL_add3R l g N M1 a0 a1 (kR M1 a0 1) (kI M1 a0 2)) lk_AL_add_72be8 (ci := 33) (T := TAL) (N := 3) rfl (Nat.le_of_ble_eq_true rfl) q_995 (fun s args ht => ht _ q_7) (by decide) rfl (Nat.le_of_ble_eq_true rfl) dAL_add_9ea2d_20 rfl (fun r3 _ => ?_)
    show GD _ _ _ _ _ [] r3
    refine d_st (fun hX _ => g_iconst 24 (hX _) 1 dAL_add_9ea2d_23 rfl kc_i_1) rfl ?_
    exact d_zretL rfl rfl rfl dAL_add_9ea2d_24
set_option maxRecDepth 100000 in
set_option maxHeartbeats 4000000 in
theorem k_L_against_ (l : Launch) (g : kG) (N : Nat) (M : kMem) (a0 : Nat) (a1 : Nat) (a2 : Nat) (x3 : Int32) : kMetD l g yL_against_ cL_against_ 5 (some .int) 9 [.ref a0, .ref a1, .ref a2, .int x3] M (fun r : Int32 × kMem => (some (.int r.1), r.2)) (F_L_against_ N M a0 a1 a2 x3) := by
  refine k_ofD (lv := [(0, .ref a0), (1, .ref a1), (2, .ref a2), (3, .int x3)]) RL (by decide) rfl rfl (Nat.le_of_ble_eq_true rfl) ?_
  unfold F_L_against_
  refine d_st (fun hX _ => g_aload_n 1 1 (hX _) dL_against__0 rfl rfl) rfl ?_
  refine d_g (fun hX _ => e_L_62 4 (hX _) dL_against__1 rfl) rfl ?_
  refine d_if (fun hX _ => g_ifnull 14 7 (hX _) dL_against__4 (by decide) rfl) (fun _ => ?_) (fun _ => ?_)
  · refine d_st (fun hX _ => g_iconst 15 (hX _) 5 dL_against__14 rfl kc_i_5) rfl ?_
    exact d_iret rfl rfl dL_against__15
  · refine d_st (fun hX _ => g_aload_n 8 2 (hX _) dL_against__7 rfl rfl) rfl ?_
    refine d_g (fun hX _ => e_L_62 11 (hX _) dL_against__8 rfl) rfl ?_
    refine d_ifN (fun hX _ => g_ifnonnull 16 14 (hX _) dL_against__11 (by decide) rfl) (fun _ => ?_) (fun _ => ?_)
    · refine d_st (fun hX _ => g_aload_n 17 1 (hX _) dL_against__16 rfl rfl) rfl ?_
      refine d_g (fun hX _ => e_L_62 20 (hX _) dL_against__17 rfl) rfl ?_
      refine d_st (fun hX _ => g_aload_n 21 2 (hX _) dL_against__20 rfl rfl) rfl ?_
      refine d_g (fun hX _ => e_L_62 24 (hX _) dL_against__21 rfl) rfl ?_
      refine d_if (fun hX _ => g_acmp_eq 30 27 (hX _) dL_against__24 (by decide) rfl) (fun _ => ?_) (fun _ => ?_)
      · refine d_st (fun hX _ => g_aload_n 31 1 (hX _) dL_against__30 rfl rfl) rfl ?_
        refine d_g (fun hX _ => e_L_158 34 (hX _) dL_against__31 rfl) rfl ?_
        refine d_st (fun hX _ => g_iload_n 35 3 (hX _) dL_against__34 rfl rfl) rfl ?_
        refine d_ifN (fun hX _ => g_icmp_le 49 38 (hX _) dL_against__35 (by decide) rfl) (fun _ => ?_) (fun _ => ?_)
        · refine d_st (fun hX _ => g_bipush 51 (hX _) 7 dL_against__49 rfl kc_b_7) rfl ?_
          exact d_iret rfl rfl dL_against__51
        · refine d_st (fun hX _ => g_aload_n 39 2 (hX _) dL_against__38 rfl rfl) rfl ?_
          refine d_g (fun hX _ => e_L_158 42 (hX _) dL_against__39 rfl) rfl ?_
          refine d_st (fun hX _ => g_iload_n 43 3 (hX _) dL_against__42 rfl rfl) rfl ?_
          refine d_st (fun hX _ => g_iadd 44 (hX _) dL_against__43 rfl) rfl ?_
          refine d_st (fun hX _ => g_bipush 46 (hX _) 99 dL_against__44 rfl kc_b_99) rfl ?_
          refine d_ifN (fun hX _ => g_icmp_le 52 49 (hX _) dL_against__46 (by decide) rfl) (fun _ => ?_) (fun _ => ?_)
          · refine d_st (fun hX _ => g_aload_n 53 2 (hX _) dL_against__52 rfl rfl) rfl ?_
            refine d_g (fun hX _ => e_L_77 56 (hX _) dL_against__53 rfl) rfl ?_
            refine d_st (fun hX _ => g_iload_n 57 3 (hX _) dL_against__56 rfl rfl) rfl ?_
            refine d_st (fun hX _ => g_aload_n 58 0 (hX _) dL_against__57 rfl rfl) rfl ?_
            refine d_st (fun hX _ => g_aload_n 59 1 (hX _) dL_against__58 rfl rfl) rfl ?_
            refine d_st (fun hX _ => g_aload_n 60 2 (hX _) dL_against__59 rfl rfl) rfl ?_
            refine d_callV 63 (k_L_unit l g N M a0 a1 a2) lk_L_unit (ci := 30) (T := TL) (N := 12) rfl (Nat.le_of_ble_eq_true rfl) q_1990 (fun s args ht => ht _ q_31) (by decide) rfl (Nat.le_of_ble_eq_true rfl) dL_against__60 rfl (fun r1 _ => ?_)
            show GD _ _ _ _ _ [.int r1.1, .int x3, .int (kI M a2 2)] r1.2
            refine d_st (fun hX _ => g_imul 64 (hX _) dL_against__63 rfl) rfl ?_
            refine d_ifN (fun hX _ => g_icmp_ge 69 67 (hX _) dL_against__64 (by decide) rfl) (fun _ => ?_) (fun _ => ?_)
            · refine d_st (fun hX _ => g_aload_n 70 1 (hX _) dL_against__69 rfl rfl) rfl ?_
              refine d_g (fun hX _ => e_L_62 73 (hX _) dL_against__70 rfl) rfl ?_
              refine d_callV 76 (k_LB_torque l g N r1.2 (kR r1.2 a1 6)) lk_LB_torque (ci := 31) (T := TLB) (N := 5) rfl (Nat.le_of_ble_eq_true rfl) q_1870 (fun s args ht => ht _ q_1738) (by decide) rfl (Nat.le_of_ble_eq_true rfl) dL_against__73 rfl (fun r2 _ => ?_)
              show GD _ _ _ _ _ [.int r2.1] r2.2
              refine d_st (fun hX _ => g_aload_n 77 1 (hX _) dL_against__76 rfl rfl) rfl ?_
              refine d_g (fun hX _ => e_L_68 80 (hX _) dL_against__77 rfl) rfl ?_
              refine d_st (fun hX _ => g_iload_n 81 3 (hX _) dL_against__80 rfl rfl) rfl ?_
              refine d_st (fun hX _ => g_imul 82 (hX _) dL_against__81 rfl) rfl ?_
              refine d_st (fun hX _ => g_isub 83 (hX _) dL_against__82 rfl) rfl ?_
              refine d_st (fun hX _ => g_aload_n 84 2 (hX _) dL_against__83 rfl rfl) rfl ?_
              refine d_g (fun hX _ => e_L_68 87 (hX _) dL_against__84 rfl) rfl ?_
              refine d_st (fun hX _ => g_iload_n 88 3 (hX _) dL_against__87 rfl rfl) rfl ?_
              refine d_st (fun hX _ => g_imul 89 (hX _) dL_against__88 rfl) rfl ?_
              refine d_st (fun hX _ => g_iadd 90 (hX _) dL_against__89 rfl) rfl ?_
              refine d_klI (fun v3 hv3 => ?_)
              refine d_st (fun hX _ => g_istore 92 4 [(4, .int v3), (0, .ref a0), (1, .ref a1), (2, .ref a2), (3, .int x3)] (hX _) dL_against__90 rfl (Nat.le_of_ble_eq_true rfl) rfl) rfl ?_
              refine d_st (fun hX _ => g_iload 94 0 (hX _) dL_against__92 rfl rfl) rfl ?_
              refine d_stR (fun hX _ hRc hRs => g_mabs (y := 0) 97 (hX _) q_1432 dL_against__94 rfl (Nat.le_of_ble_eq_true rfl) (by decide) hRc hRs) rfl ?_
              refine d_st (fun hX _ => g_aload_n 98 2 (hX _) dL_against__97 rfl rfl) rfl ?_
              refine d_g (fun hX _ => e_L_62 101 (hX _) dL_against__98 rfl) rfl ?_
              refine d_g (fun hX _ => e_L_119 104 (hX _) dL_against__101 rfl) rfl ?_
              refine d_ifN (fun hX _ => g_icmp_le 111 107 (hX _) dL_against__104 (by decide) rfl) (fun _ => ?_) (fun _ => ?_)
              · refine d_st (fun hX _ => g_iconst 112 (hX _) 0 dL_against__111 rfl kc_i_0) rfl ?_
                exact d_iret rfl rfl dL_against__112
              · refine d_st (fun hX _ => g_iconst 108 (hX _) 4 dL_against__107 rfl kc_i_4) rfl ?_
                refine d_st (fun hX _ => g_goto 112 (hX _) dL_against__108 (by decide)) rfl ?_
                exact d_iret rfl rfl dL_against__112
            · refine d_st (fun hX _ => g_iconst 68 (hX _) 3 dL_against__67 rfl kc_i_3) rfl ?_
              exact d_iret rfl rfl dL_against__68
          · refine d_st (fun hX _ => g_bipush 51 (hX _) 7 dL_against__49 rfl kc_b_7) rfl ?_
            exact d_iret rfl rfl dL_against__51
      · refine d_st (fun hX _ => g_bipush 29 (hX _) 6 dL_against__27 rfl kc_b_6) rfl ?_
        exact d_iret rfl rfl dL_against__29
    · refine d_st (fun hX _ => g_iconst 15 (hX _) 5 dL_against__14 rfl kc_i_5) rfl ?_
      exact d_iret rfl rfl dL_against__15
set_option maxRecDepth 100000 in
set_option maxHeartbeats 4000000 in
theorem k_L_begins_417 {l : Launch} {g : kG} {L0 : Nat} (N : Nat) : ∀ (n : Nat) (M : kMem) (a0 : Nat) (a1 : Nat) (a2 : Nat) (a3 : Nat) (x4 : Int32), GD (l, cL_begins, 7, RL, g, 11, L0, (some (.object "SeesawMarketLaw")), yL_begins.name) (fun r : Nat × kMem => (some (.ref r.1), r.2)) (F_L_begins_417 N n M a0 a1 a2 a3 x4) 417 [(0, .ref a0), (1, .ref a1), (2, .ref a2), (3, .ref a3), (4, .int x4)] [] M := by
  intro n
  induction n with
  | zero => intro _ _ _ _ _ _; exact d_none
  | succ n ih =>
    intro M a0 a1 a2 a3 x4
    unfold F_L_begins_417
    refine d_st (fun hX _ => g_iload 419 4 (hX _) dL_begins_417 rfl rfl) rfl ?_
    refine d_st (fun hX _ => g_aload_n 420 2 (hX _) dL_begins_419 rfl rfl) rfl ?_
    refine d_g (fun hX _ => e_L_16 423 (hX _) dL_begins_420 rfl) rfl ?_
    refine d_callF 428 (k_AL_size l g N M (kR M a2 1)) lk_AL_size_8abf5 (ci := 33) (T := TAL) (N := 3) rfl (Nat.le_of_ble_eq_true rfl) q_916 q_920 (by decide +kernel) (by decide +kernel) (by decide) rfl (Nat.le_of_ble_eq_true rfl) dL_begins_423 rfl (fun r36 _ => ?_)
    show GD _ _ _ _ _ [.int r36, .int x4] M
    refine d_ifN (fun hX _ => g_icmp_ge 577 431 (hX _) dL_begins_428 (by decide) rfl) (fun _ => ?_) (fun _ => ?_)
    · refine d_st (fun hX _ => g_aload_n 578 0 (hX _) dL_begins_577 rfl rfl) rfl ?_
      refine d_st (fun hX _ => g_aload_n 579 3 (hX _) dL_begins_578 rfl rfl) rfl ?_
      refine d_callV 582 (k_SB_toString l g N M a3) lk_SB_toString_0e30d (ci := 39) (T := TSB) (N := 4) rfl (Nat.le_of_ble_eq_true rfl) q_1435 (fun s args ht => ht _ q_1437) (by decide) rfl (Nat.le_of_ble_eq_true rfl) dL_begins_579 rfl (fun r37 _ => ?_)
      show GD _ _ _ _ _ [.ref r37.1, .ref a0] r37.2
      refine d_callS 585 (k_L_feeds l g N r37.2 a0 r37.1) lk_L_feeds q_1492 (by decide) rfl (Nat.le_of_ble_eq_true rfl) dL_begins_582 rfl (fun r38 _ => ?_)
      show GD _ _ _ _ _ [.int r38.1] r38.2
      refine d_if (fun hX _ => g_if_eq 607 588 (hX _) dL_begins_585 (by decide) rfl) (fun _ => ?_) (fun _ => ?_)
      · refine d_st (fun hX _ => g_null 608 (hX _) dL_begins_607 rfl) rfl ?_
        exact d_aret rfl (Or.inl ⟨_, rfl⟩) rfl dL_begins_608
      · refine d_st (fun hX _ => g_aload_n 589 0 (hX _) dL_begins_588 rfl rfl) rfl ?_
        refine d_callX 592 (k_X11_load l g N r38.2 a0) lk_X11_load rfl (ci := 11) rfl (Nat.le_of_ble_eq_true rfl) q_1598 q_1600 (by decide) rfl (Nat.le_of_ble_eq_true rfl) dL_begins_589 rfl (fun r39 _ hr39 => ?_)
        show GD _ _ _ _ _ (.int r39.1 :: []) r39.2
        refine d_ifN (fun hX _ => g_if_ne 607 595 (hX _) dL_begins_592 (by decide) rfl) (fun _ => ?_) (fun _ => ?_)
        · refine d_st (fun hX _ => g_null 608 (hX _) dL_begins_607 rfl) rfl ?_
          exact d_aret rfl (Or.inl ⟨_, rfl⟩) rfl dL_begins_608
        · refine d_st (fun hX _ => g_aload_n 596 0 (hX _) dL_begins_595 rfl rfl) rfl ?_
          refine d_callX 599 (k_X11_errorPosition l g N r39.2 a0) lk_X11_errorPosition rfl (ci := 11) rfl (Nat.le_of_ble_eq_true rfl) q_1602 q_1604 (by decide) rfl (Nat.le_of_ble_eq_true rfl) dL_begins_596 rfl (fun r40 _ hr40 => ?_)
          show GD _ _ _ _ _ (.int r40 :: []) r39.2
          refine d_st (fun hX _ => g_iconst 600 (hX _) (-1) dL_begins_599 rfl kc_i_m1) rfl ?_
          refine d_ifN (fun hX _ => g_icmp_ne 607 603 (hX _) dL_begins_600 (by decide) rfl) (fun _ => ?_) (fun _ => ?_)
          · refine d_st (fun hX _ => g_null 608 (hX _) dL_begins_607 rfl) rfl ?_
            exact d_aret rfl (Or.inl ⟨_, rfl⟩) rfl dL_begins_608
          · refine d_st (fun hX _ => g_aload_n 604 2 (hX _) dL_begins_603 rfl rfl) rfl ?_
            refine d_st (fun hX _ => g_goto 608 (hX _) dL_begins_604 (by decide)) rfl ?_
            exact d_aret rfl (Or.inl ⟨_, rfl⟩) rfl dL_begins_608
    · refine d_st (fun hX _ => g_aload_n 432 2 (hX _) dL_begins_431 rfl rfl) rfl ?_
      refine d_g (fun hX _ => e_L_10 435 (hX _) dL_begins_432 rfl) rfl ?_
      refine d_st (fun hX _ => g_aload_n 436 1 (hX _) dL_begins_435 rfl rfl) rfl ?_
      refine d_st (fun hX _ => g_aload_n 437 2 (hX _) dL_begins_436 rfl rfl) rfl ?_
      refine d_g (fun hX _ => e_L_10 440 (hX _) dL_begins_437 rfl) rfl ?_
      refine d_callF 445 (k_AL_size l g N M (kR M a2 0)) lk_AL_size_8abf5 (ci := 33) (T := TAL) (N := 3) rfl (Nat.le_of_ble_eq_true rfl) q_916 q_920 (by decide +kernel) (by decide +kernel) (by decide) rfl (Nat.le_of_ble_eq_true rfl) dL_begins_440 rfl (fun r41 _ => ?_)
      show GD _ _ _ _ _ [.int r41, .ref a1, .ref (kR M a2 0)] M
      refine d_callS 448 (k_L_draw l g N M a1 r41) lk_L_draw q_736 (by decide) rfl (Nat.le_of_ble_eq_true rfl) dL_begins_445 rfl (fun r42 _ => ?_)
      show GD _ _ _ _ _ [.int r42.1, .ref (kR M a2 0)] r42.2
      refine d_callF 453 (k_AL_get l g N r42.2 (kR M a2 0) r42.1) lk_AL_get_915e3 (ci := 33) (T := TAL) (N := 3) rfl (Nat.le_of_ble_eq_true rfl) q_1091 q_1094 (by decide +kernel) (by decide +kernel) (by decide) rfl (Nat.le_of_ble_eq_true rfl) dL_begins_448 rfl (fun r43 _ => ?_)
      show GD _ _ _ _ _ [.ref r43] r42.2
      refine d_g (fun hX _ => g_cast 456 (hX _) (ci := 31) (T := TLB) (N := 5) rfl (Nat.le_of_ble_eq_true rfl) q_913 dL_begins_453 rfl) rfl ?_
      refine d_st (fun hX _ => g_astore 458 5 [(5, .ref r43), (0, .ref a0), (1, .ref a1), (2, .ref a2), (3, .ref a3), (4, .int x4)] (hX _) dL_begins_456 rfl (Nat.le_of_ble_eq_true rfl) rfl) rfl ?_
      refine d_st (fun hX _ => g_aload 460 0 (hX _) dL_begins_458 rfl rfl) rfl ?_
      refine d_st (fun hX _ => g_aload_n 461 2 (hX _) dL_begins_460 rfl rfl) rfl ?_
      refine d_callS 464 (k_L_position l g N r42.2 r43 a1) lk_L_position q_1107 (by decide) rfl (Nat.le_of_ble_eq_true rfl) dL_begins_461 rfl (fun r44 _ => ?_)
      show GD _ _ _ _ _ [.int r44.1] r44.2
      refine d_klI (fun v45 hv45 => ?_)
      refine d_st (fun hX _ => g_istore 466 6 [(6, .int v45), (5, .ref r43), (0, .ref a0), (1, .ref a1), (2, .ref a2), (3, .ref a3), (4, .int x4)] (hX _) dL_begins_464 rfl (Nat.le_of_ble_eq_true rfl) rfl) rfl ?_
      refine d_st (fun hX _ => g_aload_n 467 3 (hX _) dL_begins_466 rfl rfl) rfl ?_
      refine d_st (fun hX _ => g_iconst 468 (hX _) 4 dL_begins_467 rfl kc_i_4) rfl ?_
      refine d_callS 471 (k_L_draw l g N r44.2 a1 4) lk_L_draw q_736 (by decide) rfl (Nat.le_of_ble_eq_true rfl) dL_begins_468 rfl (fun r46 _ => ?_)
      show GD _ _ _ _ _ [.int r46.1] r46.2
      refine d_if (fun hX _ => g_if_eq 571 474 (hX _) dL_begins_471 (by decide) rfl) (fun _ => ?_) (fun _ => ?_)
      · refine d_kl (fun v47 hv47 => ?_)
        refine d_st (fun hX _ => g_iinc 574 4 6 v47 [(4, .int v47), (6, .int v45), (5, .ref r43), (0, .ref a0), (1, .ref a1), (2, .ref a2), (3, .ref a3)] (hX _) dL_begins_571 rfl rfl (by rw [hv47, kc_i_1]) (Nat.le_of_ble_eq_true rfl) rfl) rfl ?_
        refine d_st (fun hX _ => g_goto 417 (hX _) dL_begins_574 (by decide)) rfl ?_
        refine d_st (fun hX _ => g_lv [3, 4, 5, 6, 0] rfl) rfl ?_
        exact ih r46.2 a0 a1 a2 a3 v47
      · refine d_st (fun hX _ => g_aload 476 1 (hX _) dL_begins_474 rfl rfl) rfl ?_
        refine d_g (fun hX _ => e_L_122 479 (hX _) dL_begins_476 rfl) rfl ?_
        refine d_st (fun hX _ => g_iload 481 0 (hX _) dL_begins_479 rfl rfl) rfl ?_
        refine d_callS 484 (k_IN_valueOf l g N r46.2 v45) lk_IN_valueOf_2dffe q_1110 (by decide) rfl (Nat.le_of_ble_eq_true rfl) dL_begins_481 rfl (fun r48 _ => ?_)
        show GD _ _ _ _ _ [.retAddr (g.1 (2000 + kBi r48.1)), .ref (kR r46.2 r43 4)] r48.2
        refine d_callV 487 (k_TM_containsKey l g N r48.2 (kR r46.2 r43 4) r48.1) lk_TM_containsKey (ci := 34) (T := TTM) (N := 9) rfl (Nat.le_of_ble_eq_true rfl) q_1130 (fun s args ht => ht _ q_1132) (by decide) rfl (Nat.le_of_ble_eq_true rfl) dL_begins_484 rfl (fun r49 _ => ?_)
        show GD _ _ _ _ _ [.int r49] r48.2
        refine d_if (fun hX _ => g_if_eq 493 490 (hX _) dL_begins_487 (by decide) rfl) (fun _ => ?_) (fun _ => ?_)
        · refine d_st (fun hX _ => g_aload_n 494 4 (hX _) dL_begins_493 rfl rfl) rfl ?_
          refine d_g (fun hX _ => e_L_16 497 (hX _) dL_begins_494 rfl) rfl ?_
          refine d_st (fun hX _ => g_iload 499 6 (hX _) dL_begins_497 rfl rfl) rfl ?_
          refine d_callF 504 (k_AL_get l g N r48.2 (kR r48.2 a2 1) x4) lk_AL_get_915e3 (ci := 33) (T := TAL) (N := 3) rfl (Nat.le_of_ble_eq_true rfl) q_1091 q_1094 (by decide +kernel) (by decide +kernel) (by decide) rfl (Nat.le_of_ble_eq_true rfl) dL_begins_499 rfl (fun r50 _ => ?_)
          show GD _ _ _ _ _ [.ref r50] r48.2
          refine d_g (fun hX _ => g_cast 507 (hX _) (ci := 32) (T := TLT) (N := 7) rfl (Nat.le_of_ble_eq_true rfl) q_1052 dL_begins_504 rfl) rfl ?_
          refine d_st (fun hX _ => g_aload 509 1 (hX _) dL_begins_507 rfl rfl) rfl ?_
          refine d_st (fun hX _ => g_iload 511 0 (hX _) dL_begins_509 rfl rfl) rfl ?_
          refine d_callV 514 (k_LT_sits l g N r48.2 r50 r43 v45) lk_LT_sits (ci := 32) (T := TLT) (N := 7) rfl (Nat.le_of_ble_eq_true rfl) q_1346 (fun s args ht => ht _ q_1348) (by decide) rfl (Nat.le_of_ble_eq_true rfl) dL_begins_511 rfl (fun r51 _ => ?_)
          show GD _ _ _ _ _ [] r51
          refine d_st (fun hX _ => g_aload_n 515 5 (hX _) dL_begins_514 rfl rfl) rfl ?_
          refine d_st (fun hX _ => g_ldcS 517 (hX _) (i := 12) rfl dL_begins_515 rfl) rfl ?_
          refine d_callV 520 (k_SB_appendS l g N r51 a3 12) lk_SB_append_15ec4 (ci := 39) (T := TSB) (N := 4) rfl (Nat.le_of_ble_eq_true rfl) q_1051 (fun s args ht => ht _ q_770) (by decide) rfl (Nat.le_of_ble_eq_true rfl) dL_begins_517 rfl (fun r52 _ => ?_)
          show GD _ _ _ _ _ [.ref r52.1] r52.2
          refine d_st (fun hX _ => g_bipush 522 (hX _) 97 dL_begins_520 rfl kc_b_97) rfl ?_
          refine d_st (fun hX _ => g_iload 524 6 (hX _) dL_begins_522 rfl rfl) rfl ?_
          refine d_st (fun hX _ => g_iadd 525 (hX _) dL_begins_524 rfl) rfl ?_
          refine d_st (fun hX _ => g_i2c 526 (hX _) (((97 + x4).toUInt32 % 65536).toInt32) dL_begins_525 rfl rfl) rfl ?_
          refine d_callV 529 (k_SB_appendC l g N r52.2 r52.1 (((97 + x4).toUInt32 % 65536).toInt32)) lk_SB_append_cf468 (ci := 39) (T := TSB) (N := 4) rfl (Nat.le_of_ble_eq_true rfl) q_900 (fun s args ht => ht _ q_902) (by decide) rfl (Nat.le_of_ble_eq_true rfl) dL_begins_526 rfl (fun r53 _ => ?_)
          show GD _ _ _ _ _ [.ref r53.1] r53.2
          refine d_st (fun hX _ => g_bipush 531 (hX _) 32 dL_begins_529 rfl kc_b_32) rfl ?_
          refine d_callV 534 (k_SB_appendC l g N r53.2 r53.1 32) lk_SB_append_cf468 (ci := 39) (T := TSB) (N := 4) rfl (Nat.le_of_ble_eq_true rfl) q_900 (fun s args ht => ht _ q_902) (by decide) rfl (Nat.le_of_ble_eq_true rfl) dL_begins_531 rfl (fun r54 _ => ?_)
          show GD _ _ _ _ _ [.ref r54.1] r54.2
          refine d_st (fun hX _ => g_aload 536 1 (hX _) dL_begins_534 rfl rfl) rfl ?_
          refine d_g (fun hX _ => e_L_238 539 (hX _) dL_begins_536 rfl) rfl ?_
          refine d_callV 542 (k_SB_appendI l g N r54.2 r54.1 (kI r54.2 r43 0)) lk_SB_append_bf812 (ci := 39) (T := TSB) (N := 4) rfl (Nat.le_of_ble_eq_true rfl) q_875 (fun s args ht => ht _ q_877) (by decide) rfl (Nat.le_of_ble_eq_true rfl) dL_begins_539 rfl (fun r55 _ => ?_)
          show GD _ _ _ _ _ [.ref r55.1] r55.2
          refine d_st (fun hX _ => g_iload 544 0 (hX _) dL_begins_542 rfl rfl) rfl ?_
          refine d_ifN (fun hX _ => g_if_ge 552 547 (hX _) dL_begins_544 (by decide) rfl) (fun _ => ?_) (fun _ => ?_)
          · refine d_st (fun hX _ => g_ldcS 554 (hX _) (i := 14) rfl dL_begins_552 rfl) rfl ?_
            refine d_callV 557 (k_SB_appendS l g N r55.2 r55.1 14) lk_SB_append_15ec4 (ci := 39) (T := TSB) (N := 4) rfl (Nat.le_of_ble_eq_true rfl) q_1051 (fun s args ht => ht _ q_770) (by decide) rfl (Nat.le_of_ble_eq_true rfl) dL_begins_554 rfl (fun r56 _ => ?_)
            show GD _ _ _ _ _ [.ref r56.1] r56.2
            refine d_st (fun hX _ => g_iload 559 0 (hX _) dL_begins_557 rfl rfl) rfl ?_
            refine d_stR (fun hX _ hRc hRs => g_mabs (y := 0) 562 (hX _) q_1432 dL_begins_559 rfl (Nat.le_of_ble_eq_true rfl) (by decide) hRc hRs) rfl ?_
            refine d_callV 565 (k_SB_appendI l g N r56.2 r56.1 (kabs v45)) lk_SB_append_bf812 (ci := 39) (T := TSB) (N := 4) rfl (Nat.le_of_ble_eq_true rfl) q_875 (fun s args ht => ht _ q_877) (by decide) rfl (Nat.le_of_ble_eq_true rfl) dL_begins_562 rfl (fun r57 _ => ?_)
            show GD _ _ _ _ _ [.ref r57.1] r57.2
            refine d_st (fun hX _ => g_bipush 567 (hX _) 59 dL_begins_565 rfl kc_b_59) rfl ?_
            refine d_callV 570 (k_SB_appendC l g N r57.2 r57.1 59) lk_SB_append_cf468 (ci := 39) (T := TSB) (N := 4) rfl (Nat.le_of_ble_eq_true rfl) q_900 (fun s args ht => ht _ q_902) (by decide) rfl (Nat.le_of_ble_eq_true rfl) dL_begins_567 rfl (fun r58 _ => ?_)
            show GD _ _ _ _ _ [.ref r58.1] r58.2
            refine d_st (fun hX _ => g_pop 571 (hX _) dL_begins_570 rfl rfl) rfl ?_
            refine d_kl (fun v59 hv59 => ?_)
            refine d_st (fun hX _ => g_iinc 574 4 6 v59 [(4, .int v59), (6, .int v45), (5, .ref r43), (0, .ref a0), (1, .ref a1), (2, .ref a2), (3, .ref a3)] (hX _) dL_begins_571 rfl rfl (by rw [hv59, kc_i_1]) (Nat.le_of_ble_eq_true rfl) rfl) rfl ?_
            refine d_st (fun hX _ => g_goto 417 (hX _) dL_begins_574 (by decide)) rfl ?_
            refine d_st (fun hX _ => g_lv [3, 4, 5, 6, 0] rfl) rfl ?_
            exact ih r58.2 a0 a1 a2 a3 v59
          · refine d_st (fun hX _ => g_ldcS 549 (hX _) (i := 13) rfl dL_begins_547 rfl) rfl ?_
            refine d_st (fun hX _ => g_goto 554 (hX _) dL_begins_549 (by decide)) rfl ?_
            refine d_callV 557 (k_SB_appendS l g N r55.2 r55.1 13) lk_SB_append_15ec4 (ci := 39) (T := TSB) (N := 4) rfl (Nat.le_of_ble_eq_true rfl) q_1051 (fun s args ht => ht _ q_770) (by decide) rfl (Nat.le_of_ble_eq_true rfl) dL_begins_554 rfl (fun r60 _ => ?_)
            show GD _ _ _ _ _ [.ref r60.1] r60.2
            refine d_st (fun hX _ => g_iload 559 0 (hX _) dL_begins_557 rfl rfl) rfl ?_
            refine d_stR (fun hX _ hRc hRs => g_mabs (y := 0) 562 (hX _) q_1432 dL_begins_559 rfl (Nat.le_of_ble_eq_true rfl) (by decide) hRc hRs) rfl ?_
            refine d_callV 565 (k_SB_appendI l g N r60.2 r60.1 (kabs v45)) lk_SB_append_bf812 (ci := 39) (T := TSB) (N := 4) rfl (Nat.le_of_ble_eq_true rfl) q_875 (fun s args ht => ht _ q_877) (by decide) rfl (Nat.le_of_ble_eq_true rfl) dL_begins_562 rfl (fun r61 _ => ?_)
            show GD _ _ _ _ _ [.ref r61.1] r61.2
            refine d_st (fun hX _ => g_bipush 567 (hX _) 59 dL_begins_565 rfl kc_b_59) rfl ?_
            refine d_callV 570 (k_SB_appendC l g N r61.2 r61.1 59) lk_SB_append_cf468 (ci := 39) (T := TSB) (N := 4) rfl (Nat.le_of_ble_eq_true rfl) q_900 (fun s args ht => ht _ q_902) (by decide) rfl (Nat.le_of_ble_eq_true rfl) dL_begins_567 rfl (fun r62 _ => ?_)
            show GD _ _ _ _ _ [.ref r62.1] r62.2
            refine d_st (fun hX _ => g_pop 571 (hX _) dL_begins_570 rfl rfl) rfl ?_
            refine d_kl (fun v63 hv63 => ?_)
            refine d_st (fun hX _ => g_iinc 574 4 6 v63 [(4, .int v63), (6, .int v45), (5, .ref r43), (0, .ref a0), (1, .ref a1), (2, .ref a2), (3, .ref a3)] (hX _) dL_begins_571 rfl rfl (by rw [hv63, kc_i_1]) (Nat.le_of_ble_eq_true rfl) rfl) rfl ?_
            refine d_st (fun hX _ => g_goto 417 (hX _) dL_begins_574 (by decide)) rfl ?_
            refine d_st (fun hX _ => g_lv [3, 4, 5, 6, 0] rfl) rfl ?_
            exact ih r62.2 a0 a1 a2 a3 v63
        · refine d_st (fun hX _ => g_goto 571 (hX _) dL_begins_490 (by decide)) rfl ?_
          refine d_kl (fun v64 hv64 => ?_)
          refine d_st (fun hX _ => g_iinc 574 4 6 v64 [(4, .int v64), (6, .int v45), (5, .ref r43), (0, .ref a0), (1, .ref a1), (2, .ref a2), (3, .ref a3)] (hX _) dL_begins_571 rfl rfl (by rw [hv64, kc_i_1]) (Nat.le_of_ble_eq_true rfl) rfl) rfl ?_
          refine d_st (fun hX _ => g_goto 417 (hX _) dL_begins_574 (by decide)) rfl ?_
          refine d_st (fun hX _ => g_lv [3, 4, 5, 6, 0] rfl) rfl ?_
          exact ih r48.2 a0 a1 a2 a3 v64
set_option maxRecDepth 100000 in
set_option maxHeartbeats 4000000 in
theorem k_L_begins_285 {l : Launch} {g : kG} {L0 : Nat} (N : Nat) : ∀ (n : Nat) (M : kMem) (a0 : Nat) (a1 : Nat) (a2 : Nat) (a3 : Nat) (x4 : Int32), GD (l, cL_begins, 7, RL, g, 11, L0, (some (.object "SeesawMarketLaw")), yL_begins.name) (fun r : Nat × kMem => (some (.ref r.1), r.2)) (F_L_begins_285 N n M a0 a1 a2 a3 x4) 285 [(0, .ref a0), (1, .ref a1), (2, .ref a2), (3, .ref a3), (4, .int x4)] [] M := by
  intro n
  induction n with
  | zero => intro _ _ _ _ _ _; exact d_none
  | succ n ih =>
    intro M a0 a1 a2 a3 x4
    unfold F_L_begins_285
    refine d_st (fun hX _ => g_iload 287 4 (hX _) dL_begins_285 rfl rfl) rfl ?_
    refine d_ifN (fun hX _ => g_if_le 414 290 (hX _) dL_begins_287 (by decide) rfl) (fun _ => ?_) (fun _ => ?_)
    · refine d_st (fun hX _ => g_iconst 415 (hX _) 0 dL_begins_414 rfl kc_i_0) rfl ?_
      refine d_st (fun hX _ => g_istore 417 4 [(4, .int 0), (0, .ref a0), (1, .ref a1), (2, .ref a2), (3, .ref a3)] (hX _) dL_begins_415 rfl (Nat.le_of_ble_eq_true rfl) rfl) rfl ?_
      refine d_st (fun hX _ => g_lv [1, 2, 3, 4, 0] rfl) rfl ?_
      exact k_L_begins_417 N N M a0 a1 a2 a3 0
    · refine dn_LT 293 q_1052 dL_begins_290 rfl ?_
      refine d_klR (fun w65 hw65 => ?_)
      refine d_klM (fun M66 hM66 => ?_)
      refine d_st (fun hX _ => g_dup 294 (hX _) dL_begins_293 rfl rfl) rfl ?_
      refine d_st (fun hX _ => g_aload_n 295 2 (hX _) dL_begins_294 rfl rfl) rfl ?_
      refine d_g (fun hX _ => e_L_16 298 (hX _) dL_begins_295 rfl) rfl ?_
      refine d_callF 303 (k_AL_size l g N M66 (kR M66 a2 1)) lk_AL_size_8abf5 (ci := 33) (T := TAL) (N := 3) rfl (Nat.le_of_ble_eq_true rfl) q_916 q_920 (by decide +kernel) (by decide +kernel) (by decide) rfl (Nat.le_of_ble_eq_true rfl) dL_begins_298 rfl (fun r67 _ => ?_)
      show GD _ _ _ _ _ [.int r67, .ref w65, .ref w65] M66
      refine d_st (fun hX _ => g_iconst 304 (hX _) 1 dL_begins_303 rfl kc_i_1) rfl ?_
      refine d_st (fun hX _ => g_aload_n 305 1 (hX _) dL_begins_304 rfl rfl) rfl ?_
      refine d_st (fun hX _ => g_bipush 307 (hX _) 20 dL_begins_305 rfl kc_b_20) rfl ?_
      refine d_callS 310 (k_L_draw l g N M66 a1 20) lk_L_draw q_736 (by decide) rfl (Nat.le_of_ble_eq_true rfl) dL_begins_307 rfl (fun r68 _ => ?_)
      show GD _ _ _ _ _ [.int r68.1, .int 1, .int r67, .ref w65, .ref w65] r68.2
      refine d_st (fun hX _ => g_iadd 311 (hX _) dL_begins_310 rfl) rfl ?_
      refine d_st (fun hX _ => g_aload_n 312 1 (hX _) dL_begins_311 rfl rfl) rfl ?_
      refine d_st (fun hX _ => g_bipush 314 (hX _) 60 dL_begins_312 rfl kc_b_60) rfl ?_
      refine d_callS 317 (k_L_draw l g N r68.2 a1 60) lk_L_draw q_736 (by decide) rfl (Nat.le_of_ble_eq_true rfl) dL_begins_314 rfl (fun r69 _ => ?_)
      show GD _ _ _ _ _ [.int r69.1, .int (1 + r68.1), .int r67, .ref w65, .ref w65] r69.2
      refine d_st (fun hX _ => g_aload_n 318 1 (hX _) dL_begins_317 rfl rfl) rfl ?_
      refine d_st (fun hX _ => g_aload_n 319 2 (hX _) dL_begins_318 rfl rfl) rfl ?_
      refine d_g (fun hX _ => e_L_106 322 (hX _) dL_begins_319 rfl) rfl ?_
      refine d_st (fun hX _ => g_iconst 323 (hX _) 1 dL_begins_322 rfl kc_i_1) rfl ?_
      refine d_st (fun hX _ => g_iadd 324 (hX _) dL_begins_323 rfl) rfl ?_
      refine d_callS 327 (k_L_draw l g N r69.2 a1 ((kI r69.2 a2 5) + 1)) lk_L_draw q_736 (by decide) rfl (Nat.le_of_ble_eq_true rfl) dL_begins_324 rfl (fun r70 _ => ?_)
      show GD _ _ _ _ _ [.int r70.1, .int r69.1, .int (1 + r68.1), .int r67, .ref w65, .ref w65] r70.2
      refine d_callI 330 (k_LT_init l g N r70.2 w65 r67 (1 + r68.1) r69.1 r70.1) lk_LT_init q_1054 rfl (by decide) rfl (Nat.le_of_ble_eq_true rfl) dL_begins_327 rfl (fun r71 _ => ?_)
      show GD _ _ _ _ _ [.ref w65] r71
      refine d_st (fun hX _ => g_astore 332 5 [(5, .ref w65), (0, .ref a0), (1, .ref a1), (2, .ref a2), (3, .ref a3), (4, .int x4)] (hX _) dL_begins_330 rfl (Nat.le_of_ble_eq_true rfl) rfl) rfl ?_
      refine d_st (fun hX _ => g_aload_n 333 3 (hX _) dL_begins_332 rfl rfl) rfl ?_
      refine d_g (fun hX _ => e_L_16 336 (hX _) dL_begins_333 rfl) rfl ?_
      refine d_st (fun hX _ => g_aload 338 0 (hX _) dL_begins_336 rfl rfl) rfl ?_
      refine d_callF 343 (k_AL_add l g N r71 (kR r71 a2 1) w65) lk_AL_add_9ea2d (ci := 33) (T := TAL) (N := 3) rfl (Nat.le_of_ble_eq_true rfl) q_987 q_990 (by decide +kernel) (by decide +kernel) (by decide) rfl (Nat.le_of_ble_eq_true rfl) dL_begins_338 rfl (fun r72 _ => ?_)
      show GD _ _ _ _ _ [.int r72.1] r72.2
      refine d_klI (fun v73 hv73 => ?_)
      refine d_st (fun hX _ => g_istore 345 6 [(6, .int v73), (5, .ref w65), (0, .ref a0), (1, .ref a1), (2, .ref a2), (3, .ref a3), (4, .int x4)] (hX _) dL_begins_343 rfl (Nat.le_of_ble_eq_true rfl) rfl) rfl ?_
      refine d_st (fun hX _ => g_aload_n 346 5 (hX _) dL_begins_345 rfl rfl) rfl ?_
      refine d_st (fun hX _ => g_ldcS 348 (hX _) (i := 11) rfl dL_begins_346 rfl) rfl ?_
      refine d_callV 351 (k_SB_appendS l g N r72.2 a3 11) lk_SB_append_15ec4 (ci := 39) (T := TSB) (N := 4) rfl (Nat.le_of_ble_eq_true rfl) q_1051 (fun s args ht => ht _ q_770) (by decide) rfl (Nat.le_of_ble_eq_true rfl) dL_begins_348 rfl (fun r74 _ => ?_)
      show GD _ _ _ _ _ [.ref r74.1] r74.2
      refine d_st (fun hX _ => g_bipush 353 (hX _) 97 dL_begins_351 rfl kc_b_97) rfl ?_
      refine d_st (fun hX _ => g_aload 355 1 (hX _) dL_begins_353 rfl rfl) rfl ?_
      refine d_g (fun hX _ => e_L_230 358 (hX _) dL_begins_355 rfl) rfl ?_
      refine d_st (fun hX _ => g_iadd 359 (hX _) dL_begins_358 rfl) rfl ?_
      refine d_st (fun hX _ => g_i2c 360 (hX _) (((97 + (kI r74.2 w65 0)).toUInt32 % 65536).toInt32) dL_begins_359 rfl rfl) rfl ?_
      refine d_callV 363 (k_SB_appendC l g N r74.2 r74.1 (((97 + (kI r74.2 w65 0)).toUInt32 % 65536).toInt32)) lk_SB_append_cf468 (ci := 39) (T := TSB) (N := 4) rfl (Nat.le_of_ble_eq_true rfl) q_900 (fun s args ht => ht _ q_902) (by decide) rfl (Nat.le_of_ble_eq_true rfl) dL_begins_360 rfl (fun r75 _ => ?_)
      show GD _ _ _ _ _ [.ref r75.1] r75.2
      refine d_st (fun hX _ => g_bipush 365 (hX _) 32 dL_begins_363 rfl kc_b_32) rfl ?_
      refine d_callV 368 (k_SB_appendC l g N r75.2 r75.1 32) lk_SB_append_cf468 (ci := 39) (T := TSB) (N := 4) rfl (Nat.le_of_ble_eq_true rfl) q_900 (fun s args ht => ht _ q_902) (by decide) rfl (Nat.le_of_ble_eq_true rfl) dL_begins_365 rfl (fun r76 _ => ?_)
      show GD _ _ _ _ _ [.ref r76.1] r76.2
      refine d_st (fun hX _ => g_aload 370 1 (hX _) dL_begins_368 rfl rfl) rfl ?_
      refine d_g (fun hX _ => e_L_158 373 (hX _) dL_begins_370 rfl) rfl ?_
      refine d_callV 376 (k_SB_appendI l g N r76.2 r76.1 (kI r76.2 w65 1)) lk_SB_append_bf812 (ci := 39) (T := TSB) (N := 4) rfl (Nat.le_of_ble_eq_true rfl) q_875 (fun s args ht => ht _ q_877) (by decide) rfl (Nat.le_of_ble_eq_true rfl) dL_begins_373 rfl (fun r77 _ => ?_)
      show GD _ _ _ _ _ [.ref r77.1] r77.2
      refine d_st (fun hX _ => g_bipush 378 (hX _) 32 dL_begins_376 rfl kc_b_32) rfl ?_
      refine d_callV 381 (k_SB_appendC l g N r77.2 r77.1 32) lk_SB_append_cf468 (ci := 39) (T := TSB) (N := 4) rfl (Nat.le_of_ble_eq_true rfl) q_900 (fun s args ht => ht _ q_902) (by decide) rfl (Nat.le_of_ble_eq_true rfl) dL_begins_378 rfl (fun r78 _ => ?_)
      show GD _ _ _ _ _ [.ref r78.1] r78.2
      refine d_st (fun hX _ => g_aload 383 1 (hX _) dL_begins_381 rfl rfl) rfl ?_
      refine d_g (fun hX _ => e_L_77 386 (hX _) dL_begins_383 rfl) rfl ?_
      refine d_callV 389 (k_SB_appendI l g N r78.2 r78.1 (kI r78.2 w65 2)) lk_SB_append_bf812 (ci := 39) (T := TSB) (N := 4) rfl (Nat.le_of_ble_eq_true rfl) q_875 (fun s args ht => ht _ q_877) (by decide) rfl (Nat.le_of_ble_eq_true rfl) dL_begins_386 rfl (fun r79 _ => ?_)
      show GD _ _ _ _ _ [.ref r79.1] r79.2
      refine d_st (fun hX _ => g_bipush 391 (hX _) 32 dL_begins_389 rfl kc_b_32) rfl ?_
      refine d_callV 394 (k_SB_appendC l g N r79.2 r79.1 32) lk_SB_append_cf468 (ci := 39) (T := TSB) (N := 4) rfl (Nat.le_of_ble_eq_true rfl) q_900 (fun s args ht => ht _ q_902) (by decide) rfl (Nat.le_of_ble_eq_true rfl) dL_begins_391 rfl (fun r80 _ => ?_)
      show GD _ _ _ _ _ [.ref r80.1] r80.2
      refine d_st (fun hX _ => g_aload 396 1 (hX _) dL_begins_394 rfl rfl) rfl ?_
      refine d_g (fun hX _ => e_L_103 399 (hX _) dL_begins_396 rfl) rfl ?_
      refine d_callV 402 (k_SB_appendI l g N r80.2 r80.1 (kI r80.2 w65 3)) lk_SB_append_bf812 (ci := 39) (T := TSB) (N := 4) rfl (Nat.le_of_ble_eq_true rfl) q_875 (fun s args ht => ht _ q_877) (by decide) rfl (Nat.le_of_ble_eq_true rfl) dL_begins_399 rfl (fun r81 _ => ?_)
      show GD _ _ _ _ _ [.ref r81.1] r81.2
      refine d_st (fun hX _ => g_bipush 404 (hX _) 59 dL_begins_402 rfl kc_b_59) rfl ?_
      refine d_callV 407 (k_SB_appendC l g N r81.2 r81.1 59) lk_SB_append_cf468 (ci := 39) (T := TSB) (N := 4) rfl (Nat.le_of_ble_eq_true rfl) q_900 (fun s args ht => ht _ q_902) (by decide) rfl (Nat.le_of_ble_eq_true rfl) dL_begins_404 rfl (fun r82 _ => ?_)
      show GD _ _ _ _ _ [.ref r82.1] r82.2
      refine d_st (fun hX _ => g_pop 408 (hX _) dL_begins_407 rfl rfl) rfl ?_
      refine d_kl (fun v83 hv83 => ?_)
      refine d_st (fun hX _ => g_iinc 411 4 6 v83 [(4, .int v83), (6, .int v73), (5, .ref w65), (0, .ref a0), (1, .ref a1), (2, .ref a2), (3, .ref a3)] (hX _) dL_begins_408 rfl rfl (by rw [hv83, kc_i_m1]) (Nat.le_of_ble_eq_true rfl) rfl) rfl ?_
      refine d_st (fun hX _ => g_goto 285 (hX _) dL_begins_411 (by decide)) rfl ?_
      refine d_st (fun hX _ => g_lv [3, 4, 5, 6, 0] rfl) rfl ?_
      exact ih r82.2 a0 a1 a2 a3 v83
set_option maxRecDepth 100000 in
set_option maxHeartbeats 4000000 in
theorem k_L_begins_163 {l : Launch} {g : kG} {L0 : Nat} (N : Nat) : ∀ (n : Nat) (M : kMem) (a0 : Nat) (a1 : Nat) (a2 : Nat) (a3 : Nat) (x4 : Int32), GD (l, cL_begins, 7, RL, g, 11, L0, (some (.object "SeesawMarketLaw")), yL_begins.name) (fun r : Nat × kMem => (some (.ref r.1), r.2)) (F_L_begins_163 N n M a0 a1 a2 a3 x4) 163 [(0, .ref a0), (1, .ref a1), (2, .ref a2), (3, .ref a3), (4, .int x4)] [] M := by
  intro n
  induction n with
  | zero => intro _ _ _ _ _ _; exact d_none
  | succ n ih =>
    intro M a0 a1 a2 a3 x4
    unfold F_L_begins_163
    refine d_st (fun hX _ => g_iload 165 4 (hX _) dL_begins_163 rfl rfl) rfl ?_
    refine d_ifN (fun hX _ => g_if_le 275 168 (hX _) dL_begins_165 (by decide) rfl) (fun _ => ?_) (fun _ => ?_)
    · refine d_st (fun hX _ => g_iconst 276 (hX _) 2 dL_begins_275 rfl kc_i_2) rfl ?_
      refine d_st (fun hX _ => g_aload_n 277 1 (hX _) dL_begins_276 rfl rfl) rfl ?_
      refine d_st (fun hX _ => g_bipush 279 (hX _) 6 dL_begins_277 rfl kc_b_6) rfl ?_
      refine d_callS 282 (k_L_draw l g N M a1 6) lk_L_draw q_736 (by decide) rfl (Nat.le_of_ble_eq_true rfl) dL_begins_279 rfl (fun r34 _ => ?_)
      show GD _ _ _ _ _ [.int r34.1, .int 2] r34.2
      refine d_st (fun hX _ => g_iadd 283 (hX _) dL_begins_282 rfl) rfl ?_
      refine d_klI (fun v35 hv35 => ?_)
      refine d_st (fun hX _ => g_istore 285 4 [(4, .int v35), (0, .ref a0), (1, .ref a1), (2, .ref a2), (3, .ref a3)] (hX _) dL_begins_283 rfl (Nat.le_of_ble_eq_true rfl) rfl) rfl ?_
      refine d_st (fun hX _ => g_lv [1, 2, 3, 4, 0] rfl) rfl ?_
      exact k_L_begins_285 N N r34.2 a0 a1 a2 a3 v35
    · refine dn_LB 171 q_913 dL_begins_168 rfl ?_
      refine d_klR (fun w84 hw84 => ?_)
      refine d_klM (fun M85 hM85 => ?_)
      refine d_st (fun hX _ => g_dup 172 (hX _) dL_begins_171 rfl rfl) rfl ?_
      refine d_st (fun hX _ => g_aload_n 173 2 (hX _) dL_begins_172 rfl rfl) rfl ?_
      refine d_g (fun hX _ => e_L_10 176 (hX _) dL_begins_173 rfl) rfl ?_
      refine d_callF 181 (k_AL_size l g N M85 (kR M85 a2 0)) lk_AL_size_8abf5 (ci := 33) (T := TAL) (N := 3) rfl (Nat.le_of_ble_eq_true rfl) q_916 q_920 (by decide +kernel) (by decide +kernel) (by decide) rfl (Nat.le_of_ble_eq_true rfl) dL_begins_176 rfl (fun r86 _ => ?_)
      show GD _ _ _ _ _ [.int r86, .ref w84, .ref w84] M85
      refine d_st (fun hX _ => g_iconst 182 (hX _) 1 dL_begins_181 rfl kc_i_1) rfl ?_
      refine d_st (fun hX _ => g_aload_n 183 1 (hX _) dL_begins_182 rfl rfl) rfl ?_
      refine d_st (fun hX _ => g_iconst 184 (hX _) 5 dL_begins_183 rfl kc_i_5) rfl ?_
      refine d_callS 187 (k_L_draw l g N M85 a1 5) lk_L_draw q_736 (by decide) rfl (Nat.le_of_ble_eq_true rfl) dL_begins_184 rfl (fun r87 _ => ?_)
      show GD _ _ _ _ _ [.int r87.1, .int 1, .int r86, .ref w84, .ref w84] r87.2
      refine d_st (fun hX _ => g_iadd 188 (hX _) dL_begins_187 rfl) rfl ?_
      refine d_st (fun hX _ => g_iconst 189 (hX _) 2 dL_begins_188 rfl kc_i_2) rfl ?_
      refine d_st (fun hX _ => g_aload_n 190 1 (hX _) dL_begins_189 rfl rfl) rfl ?_
      refine d_st (fun hX _ => g_bipush 192 (hX _) 15 dL_begins_190 rfl kc_b_15) rfl ?_
      refine d_callS 195 (k_L_draw l g N r87.2 a1 15) lk_L_draw q_736 (by decide) rfl (Nat.le_of_ble_eq_true rfl) dL_begins_192 rfl (fun r88 _ => ?_)
      show GD _ _ _ _ _ [.int r88.1, .int 2, .int (1 + r87.1), .int r86, .ref w84, .ref w84] r88.2
      refine d_st (fun hX _ => g_iadd 196 (hX _) dL_begins_195 rfl) rfl ?_
      refine d_st (fun hX _ => g_bipush 198 (hX _) 10 dL_begins_196 rfl kc_b_10) rfl ?_
      refine d_st (fun hX _ => g_aload_n 199 1 (hX _) dL_begins_198 rfl rfl) rfl ?_
      refine d_st (fun hX _ => g_bipush 201 (hX _) 60 dL_begins_199 rfl kc_b_60) rfl ?_
      refine d_callS 204 (k_L_draw l g N r88.2 a1 60) lk_L_draw q_736 (by decide) rfl (Nat.le_of_ble_eq_true rfl) dL_begins_201 rfl (fun r89 _ => ?_)
      show GD _ _ _ _ _ [.int r89.1, .int 10, .int (2 + r88.1), .int (1 + r87.1), .int r86, .ref w84, .ref w84] r89.2
      refine d_st (fun hX _ => g_iadd 205 (hX _) dL_begins_204 rfl) rfl ?_
      refine d_callI 208 (k_LB_init l g N r89.2 w84 r86 (1 + r87.1) (2 + r88.1) (10 + r89.1)) lk_LB_init q_925 rfl (by decide) rfl (Nat.le_of_ble_eq_true rfl) dL_begins_205 rfl (fun r90 _ => ?_)
      show GD _ _ _ _ _ [.ref w84] r90
      refine d_st (fun hX _ => g_astore 210 5 [(5, .ref w84), (0, .ref a0), (1, .ref a1), (2, .ref a2), (3, .ref a3), (4, .int x4)] (hX _) dL_begins_208 rfl (Nat.le_of_ble_eq_true rfl) rfl) rfl ?_
      refine d_st (fun hX _ => g_aload_n 211 3 (hX _) dL_begins_210 rfl rfl) rfl ?_
      refine d_g (fun hX _ => e_L_10 214 (hX _) dL_begins_211 rfl) rfl ?_
      refine d_st (fun hX _ => g_aload 216 0 (hX _) dL_begins_214 rfl rfl) rfl ?_
      refine d_callF 221 (k_AL_add l g N r90 (kR r90 a2 0) w84) lk_AL_add_9ea2d (ci := 33) (T := TAL) (N := 3) rfl (Nat.le_of_ble_eq_true rfl) q_987 q_990 (by decide +kernel) (by decide +kernel) (by decide) rfl (Nat.le_of_ble_eq_true rfl) dL_begins_216 rfl (fun r91 _ => ?_)
      show GD _ _ _ _ _ [.int r91.1] r91.2
      refine d_klI (fun v92 hv92 => ?_)
      refine d_st (fun hX _ => g_istore 223 6 [(6, .int v92), (5, .ref w84), (0, .ref a0), (1, .ref a1), (2, .ref a2), (3, .ref a3), (4, .int x4)] (hX _) dL_begins_221 rfl (Nat.le_of_ble_eq_true rfl) rfl) rfl ?_
      refine d_st (fun hX _ => g_aload_n 224 5 (hX _) dL_begins_223 rfl rfl) rfl ?_
      refine d_st (fun hX _ => g_ldcS 226 (hX _) (i := 10) rfl dL_begins_224 rfl) rfl ?_
      refine d_callV 229 (k_SB_appendS l g N r91.2 a3 10) lk_SB_append_15ec4 (ci := 39) (T := TSB) (N := 4) rfl (Nat.le_of_ble_eq_true rfl) q_1051 (fun s args ht => ht _ q_770) (by decide) rfl (Nat.le_of_ble_eq_true rfl) dL_begins_226 rfl (fun r93 _ => ?_)
      show GD _ _ _ _ _ [.ref r93.1] r93.2
      refine d_st (fun hX _ => g_aload 231 1 (hX _) dL_begins_229 rfl rfl) rfl ?_
      refine d_g (fun hX _ => e_L_221 234 (hX _) dL_begins_231 rfl) rfl ?_
      refine d_callV 237 (k_SB_appendI l g N r93.2 r93.1 (kI r93.2 w84 1)) lk_SB_append_bf812 (ci := 39) (T := TSB) (N := 4) rfl (Nat.le_of_ble_eq_true rfl) q_875 (fun s args ht => ht _ q_877) (by decide) rfl (Nat.le_of_ble_eq_true rfl) dL_begins_234 rfl (fun r94 _ => ?_)
      show GD _ _ _ _ _ [.ref r94.1] r94.2
      refine d_st (fun hX _ => g_bipush 239 (hX _) 32 dL_begins_237 rfl kc_b_32) rfl ?_
      refine d_callV 242 (k_SB_appendC l g N r94.2 r94.1 32) lk_SB_append_cf468 (ci := 39) (T := TSB) (N := 4) rfl (Nat.le_of_ble_eq_true rfl) q_900 (fun s args ht => ht _ q_902) (by decide) rfl (Nat.le_of_ble_eq_true rfl) dL_begins_239 rfl (fun r95 _ => ?_)
      show GD _ _ _ _ _ [.ref r95.1] r95.2
      refine d_st (fun hX _ => g_aload 244 1 (hX _) dL_begins_242 rfl rfl) rfl ?_
      refine d_g (fun hX _ => e_L_224 247 (hX _) dL_begins_244 rfl) rfl ?_
      refine d_callV 250 (k_SB_appendI l g N r95.2 r95.1 (kI r95.2 w84 2)) lk_SB_append_bf812 (ci := 39) (T := TSB) (N := 4) rfl (Nat.le_of_ble_eq_true rfl) q_875 (fun s args ht => ht _ q_877) (by decide) rfl (Nat.le_of_ble_eq_true rfl) dL_begins_247 rfl (fun r96 _ => ?_)
      show GD _ _ _ _ _ [.ref r96.1] r96.2
      refine d_st (fun hX _ => g_bipush 252 (hX _) 32 dL_begins_250 rfl kc_b_32) rfl ?_
      refine d_callV 255 (k_SB_appendC l g N r96.2 r96.1 32) lk_SB_append_cf468 (ci := 39) (T := TSB) (N := 4) rfl (Nat.le_of_ble_eq_true rfl) q_900 (fun s args ht => ht _ q_902) (by decide) rfl (Nat.le_of_ble_eq_true rfl) dL_begins_252 rfl (fun r97 _ => ?_)
      show GD _ _ _ _ _ [.ref r97.1] r97.2
      refine d_st (fun hX _ => g_aload 257 1 (hX _) dL_begins_255 rfl rfl) rfl ?_
      refine d_g (fun hX _ => e_L_119 260 (hX _) dL_begins_257 rfl) rfl ?_
      refine d_callV 263 (k_SB_appendI l g N r97.2 r97.1 (kI r97.2 w84 3)) lk_SB_append_bf812 (ci := 39) (T := TSB) (N := 4) rfl (Nat.le_of_ble_eq_true rfl) q_875 (fun s args ht => ht _ q_877) (by decide) rfl (Nat.le_of_ble_eq_true rfl) dL_begins_260 rfl (fun r98 _ => ?_)
      show GD _ _ _ _ _ [.ref r98.1] r98.2
      refine d_st (fun hX _ => g_bipush 265 (hX _) 59 dL_begins_263 rfl kc_b_59) rfl ?_
      refine d_callV 268 (k_SB_appendC l g N r98.2 r98.1 59) lk_SB_append_cf468 (ci := 39) (T := TSB) (N := 4) rfl (Nat.le_of_ble_eq_true rfl) q_900 (fun s args ht => ht _ q_902) (by decide) rfl (Nat.le_of_ble_eq_true rfl) dL_begins_265 rfl (fun r99 _ => ?_)
      show GD _ _ _ _ _ [.ref r99.1] r99.2
      refine d_st (fun hX _ => g_pop 269 (hX _) dL_begins_268 rfl rfl) rfl ?_
      refine d_kl (fun v100 hv100 => ?_)
      refine d_st (fun hX _ => g_iinc 272 4 6 v100 [(4, .int v100), (6, .int v92), (5, .ref w84), (0, .ref a0), (1, .ref a1), (2, .ref a2), (3, .ref a3)] (hX _) dL_begins_269 rfl rfl (by rw [hv100, kc_i_m1]) (Nat.le_of_ble_eq_true rfl) rfl) rfl ?_
      refine d_st (fun hX _ => g_goto 163 (hX _) dL_begins_272 (by decide)) rfl ?_
      refine d_st (fun hX _ => g_lv [3, 4, 5, 6, 0] rfl) rfl ?_
      exact ih r99.2 a0 a1 a2 a3 v100
set_option maxRecDepth 100000 in
set_option maxHeartbeats 4000000 in
theorem k_L_begins (l : Launch) (g : kG) (N : Nat) (M : kMem) (a0 : Nat) (a1 : Nat) : kMetD l g yL_begins cL_begins 7 (some (.object "SeesawMarketLaw")) 11 [.ref a0, .ref a1] M (fun r : Nat × kMem => (some (.ref r.1), r.2)) (F_L_begins N M a0 a1) := by
  refine k_ofD (lv := [(0, .ref a0), (1, .ref a1)]) RL (by decide) rfl rfl (Nat.le_of_ble_eq_true rfl) ?_
  unfold F_L_begins
  refine dn_L 3 q_664 dL_begins_0 rfl ?_
  refine d_klR (fun w1 hw1 => ?_)
  refine d_klM (fun M2 hM2 => ?_)
  refine d_st (fun hX _ => g_dup 4 (hX _) dL_begins_3 rfl rfl) rfl ?_
  refine d_callI 7 (k_L_init l g N M2 w1) lk_L_init q_666 rfl (by decide) rfl (Nat.le_of_ble_eq_true rfl) dL_begins_4 rfl (fun r3 _ => ?_)
  show GD _ _ _ _ _ [.ref w1] r3
  refine d_st (fun hX _ => g_astore_n 8 2 [(2, .ref w1), (0, .ref a0), (1, .ref a1)] (hX _) dL_begins_7 rfl rfl (Nat.le_of_ble_eq_true rfl) rfl) rfl ?_
  refine d_st (fun hX _ => g_aload_n 9 0 (hX _) dL_begins_8 rfl rfl) rfl ?_
  refine d_st (fun hX _ => g_aload_n 10 2 (hX _) dL_begins_9 rfl rfl) rfl ?_
  refine d_st (fun hX _ => g_bipush 12 (hX _) 8 dL_begins_10 rfl kc_b_8) rfl ?_
  refine d_callS 15 (k_L_draw l g N r3 a1 8) lk_L_draw q_736 (by decide) rfl (Nat.le_of_ble_eq_true rfl) dL_begins_12 rfl (fun r4 _ => ?_)
  show GD _ _ _ _ _ [.int r4.1, .ref w1] r4.2
  refine d_g (fun hX _ => ui_L_59 18 (hX _) dL_begins_15 rfl) rfl ?_
  refine d_klM (fun M5 hM5 => ?_)
  refine d_st (fun hX _ => g_aload_n 19 0 (hX _) dL_begins_18 rfl rfl) rfl ?_
  refine d_st (fun hX _ => g_aload_n 20 2 (hX _) dL_begins_19 rfl rfl) rfl ?_
  refine d_st (fun hX _ => g_bipush 22 (hX _) 9 dL_begins_20 rfl kc_b_9) rfl ?_
  refine d_callS 25 (k_L_draw l g N M5 a1 9) lk_L_draw q_736 (by decide) rfl (Nat.le_of_ble_eq_true rfl) dL_begins_22 rfl (fun r6 _ => ?_)
  show GD _ _ _ _ _ [.int r6.1, .ref w1] r6.2
  refine d_g (fun hX _ => ui_L_41 28 (hX _) dL_begins_25 rfl) rfl ?_
  refine d_klM (fun M7 hM7 => ?_)
  refine d_st (fun hX _ => g_aload_n 29 0 (hX _) dL_begins_28 rfl rfl) rfl ?_
  refine d_st (fun hX _ => g_aload_n 30 2 (hX _) dL_begins_29 rfl rfl) rfl ?_
  refine d_st (fun hX _ => g_bipush 32 (hX _) 6 dL_begins_30 rfl kc_b_6) rfl ?_
  refine d_callS 35 (k_L_draw l g N M7 a1 6) lk_L_draw q_736 (by decide) rfl (Nat.le_of_ble_eq_true rfl) dL_begins_32 rfl (fun r8 _ => ?_)
  show GD _ _ _ _ _ [.int r8.1, .ref w1] r8.2
  refine d_g (fun hX _ => ui_L_165 38 (hX _) dL_begins_35 rfl) rfl ?_
  refine d_klM (fun M9 hM9 => ?_)
  refine d_st (fun hX _ => g_aload_n 39 0 (hX _) dL_begins_38 rfl rfl) rfl ?_
  refine d_st (fun hX _ => g_bipush 41 (hX _) 8 dL_begins_39 rfl kc_b_8) rfl ?_
  refine d_st (fun hX _ => g_aload_n 42 2 (hX _) dL_begins_41 rfl rfl) rfl ?_
  refine d_st (fun hX _ => g_bipush 44 (hX _) 30 dL_begins_42 rfl kc_b_30) rfl ?_
  refine d_callS 47 (k_L_draw l g N M9 a1 30) lk_L_draw q_736 (by decide) rfl (Nat.le_of_ble_eq_true rfl) dL_begins_44 rfl (fun r10 _ => ?_)
  show GD _ _ _ _ _ [.int r10.1, .int 8, .ref w1] r10.2
  refine d_st (fun hX _ => g_iadd 48 (hX _) dL_begins_47 rfl) rfl ?_
  refine d_g (fun hX _ => ui_L_106 51 (hX _) dL_begins_48 rfl) rfl ?_
  refine d_klM (fun M11 hM11 => ?_)
  refine d_st (fun hX _ => g_aload_n 52 0 (hX _) dL_begins_51 rfl rfl) rfl ?_
  refine d_st (fun hX _ => g_aload_n 53 2 (hX _) dL_begins_52 rfl rfl) rfl ?_
  refine d_st (fun hX _ => g_bipush 55 (hX _) 12 dL_begins_53 rfl kc_b_12) rfl ?_
  refine d_callS 58 (k_L_draw l g N M11 a1 12) lk_L_draw q_736 (by decide) rfl (Nat.le_of_ble_eq_true rfl) dL_begins_55 rfl (fun r12 _ => ?_)
  show GD _ _ _ _ _ [.int r12.1, .ref w1] r12.2
  refine d_g (fun hX _ => ui_L_141 61 (hX _) dL_begins_58 rfl) rfl ?_
  refine d_klM (fun M13 hM13 => ?_)
  refine d_st (fun hX _ => g_aload_n 62 0 (hX _) dL_begins_61 rfl rfl) rfl ?_
  refine d_st (fun hX _ => g_aload_n 63 2 (hX _) dL_begins_62 rfl rfl) rfl ?_
  refine d_st (fun hX _ => g_sipush 66 (hX _) 200 dL_begins_63 rfl kc_s_200) rfl ?_
  refine d_callS 69 (k_L_draw l g N M13 a1 200) lk_L_draw q_736 (by decide) rfl (Nat.le_of_ble_eq_true rfl) dL_begins_66 rfl (fun r14 _ => ?_)
  show GD _ _ _ _ _ [.int r14.1, .ref w1] r14.2
  refine d_g (fun hX _ => ui_L_71 72 (hX _) dL_begins_69 rfl) rfl ?_
  refine d_klM (fun M15 hM15 => ?_)
  refine dn_SB 75 q_741 dL_begins_72 rfl ?_
  refine d_klR (fun w16 hw16 => ?_)
  refine d_klM (fun M17 hM17 => ?_)
  refine d_st (fun hX _ => g_dup 76 (hX _) dL_begins_75 rfl rfl) rfl ?_
  refine d_st (fun hX _ => g_ldcS 78 (hX _) (i := 9) rfl dL_begins_76 rfl) rfl ?_
  refine d_callI 81 (k_SB_init l g N M17 w16 9) lk_SB_init_a7421 q_744 rfl (by decide) rfl (Nat.le_of_ble_eq_true rfl) dL_begins_78 rfl (fun r18 _ => ?_)
  show GD _ _ _ _ _ [.ref w16] r18
  refine d_st (fun hX _ => g_aload_n 82 0 (hX _) dL_begins_81 rfl rfl) rfl ?_
  refine d_g (fun hX _ => e_L_59 85 (hX _) dL_begins_82 rfl) rfl ?_
  refine d_callV 88 (k_SB_appendI l g N r18 w16 (kI r18 w1 2)) lk_SB_append_bf812 (ci := 39) (T := TSB) (N := 4) rfl (Nat.le_of_ble_eq_true rfl) q_875 (fun s args ht => ht _ q_877) (by decide) rfl (Nat.le_of_ble_eq_true rfl) dL_begins_85 rfl (fun r19 _ => ?_)
  show GD _ _ _ _ _ [.ref r19.1] r19.2
  refine d_st (fun hX _ => g_bipush 90 (hX _) 32 dL_begins_88 rfl kc_b_32) rfl ?_
  refine d_callV 93 (k_SB_appendC l g N r19.2 r19.1 32) lk_SB_append_cf468 (ci := 39) (T := TSB) (N := 4) rfl (Nat.le_of_ble_eq_true rfl) q_900 (fun s args ht => ht _ q_902) (by decide) rfl (Nat.le_of_ble_eq_true rfl) dL_begins_90 rfl (fun r20 _ => ?_)
  show GD _ _ _ _ _ [.ref r20.1] r20.2
  refine d_st (fun hX _ => g_aload_n 94 0 (hX _) dL_begins_93 rfl rfl) rfl ?_
  refine d_g (fun hX _ => e_L_41 97 (hX _) dL_begins_94 rfl) rfl ?_
  refine d_callV 100 (k_SB_appendI l g N r20.2 r20.1 (kI r20.2 w1 3)) lk_SB_append_bf812 (ci := 39) (T := TSB) (N := 4) rfl (Nat.le_of_ble_eq_true rfl) q_875 (fun s args ht => ht _ q_877) (by decide) rfl (Nat.le_of_ble_eq_true rfl) dL_begins_97 rfl (fun r21 _ => ?_)
  show GD _ _ _ _ _ [.ref r21.1] r21.2
  refine d_st (fun hX _ => g_bipush 102 (hX _) 32 dL_begins_100 rfl kc_b_32) rfl ?_
  refine d_callV 105 (k_SB_appendC l g N r21.2 r21.1 32) lk_SB_append_cf468 (ci := 39) (T := TSB) (N := 4) rfl (Nat.le_of_ble_eq_true rfl) q_900 (fun s args ht => ht _ q_902) (by decide) rfl (Nat.le_of_ble_eq_true rfl) dL_begins_102 rfl (fun r22 _ => ?_)
  show GD _ _ _ _ _ [.ref r22.1] r22.2
  refine d_st (fun hX _ => g_aload_n 106 0 (hX _) dL_begins_105 rfl rfl) rfl ?_
  refine d_g (fun hX _ => e_L_165 109 (hX _) dL_begins_106 rfl) rfl ?_
  refine d_callV 112 (k_SB_appendI l g N r22.2 r22.1 (kI r22.2 w1 4)) lk_SB_append_bf812 (ci := 39) (T := TSB) (N := 4) rfl (Nat.le_of_ble_eq_true rfl) q_875 (fun s args ht => ht _ q_877) (by decide) rfl (Nat.le_of_ble_eq_true rfl) dL_begins_109 rfl (fun r23 _ => ?_)
  show GD _ _ _ _ _ [.ref r23.1] r23.2
  refine d_st (fun hX _ => g_bipush 114 (hX _) 32 dL_begins_112 rfl kc_b_32) rfl ?_
  refine d_callV 117 (k_SB_appendC l g N r23.2 r23.1 32) lk_SB_append_cf468 (ci := 39) (T := TSB) (N := 4) rfl (Nat.le_of_ble_eq_true rfl) q_900 (fun s args ht => ht _ q_902) (by decide) rfl (Nat.le_of_ble_eq_true rfl) dL_begins_114 rfl (fun r24 _ => ?_)
  show GD _ _ _ _ _ [.ref r24.1] r24.2
  refine d_st (fun hX _ => g_aload_n 118 0 (hX _) dL_begins_117 rfl rfl) rfl ?_
  refine d_g (fun hX _ => e_L_106 121 (hX _) dL_begins_118 rfl) rfl ?_
  refine d_callV 124 (k_SB_appendI l g N r24.2 r24.1 (kI r24.2 w1 5)) lk_SB_append_bf812 (ci := 39) (T := TSB) (N := 4) rfl (Nat.le_of_ble_eq_true rfl) q_875 (fun s args ht => ht _ q_877) (by decide) rfl (Nat.le_of_ble_eq_true rfl) dL_begins_121 rfl (fun r25 _ => ?_)
  show GD _ _ _ _ _ [.ref r25.1] r25.2
  refine d_st (fun hX _ => g_bipush 126 (hX _) 32 dL_begins_124 rfl kc_b_32) rfl ?_
  refine d_callV 129 (k_SB_appendC l g N r25.2 r25.1 32) lk_SB_append_cf468 (ci := 39) (T := TSB) (N := 4) rfl (Nat.le_of_ble_eq_true rfl) q_900 (fun s args ht => ht _ q_902) (by decide) rfl (Nat.le_of_ble_eq_true rfl) dL_begins_126 rfl (fun r26 _ => ?_)
  show GD _ _ _ _ _ [.ref r26.1] r26.2
  refine d_st (fun hX _ => g_aload_n 130 0 (hX _) dL_begins_129 rfl rfl) rfl ?_
  refine d_g (fun hX _ => e_L_141 133 (hX _) dL_begins_130 rfl) rfl ?_
  refine d_callV 136 (k_SB_appendI l g N r26.2 r26.1 (kI r26.2 w1 6)) lk_SB_append_bf812 (ci := 39) (T := TSB) (N := 4) rfl (Nat.le_of_ble_eq_true rfl) q_875 (fun s args ht => ht _ q_877) (by decide) rfl (Nat.le_of_ble_eq_true rfl) dL_begins_133 rfl (fun r27 _ => ?_)
  show GD _ _ _ _ _ [.ref r27.1] r27.2
  refine d_st (fun hX _ => g_bipush 138 (hX _) 32 dL_begins_136 rfl kc_b_32) rfl ?_
  refine d_callV 141 (k_SB_appendC l g N r27.2 r27.1 32) lk_SB_append_cf468 (ci := 39) (T := TSB) (N := 4) rfl (Nat.le_of_ble_eq_true rfl) q_900 (fun s args ht => ht _ q_902) (by decide) rfl (Nat.le_of_ble_eq_true rfl) dL_begins_138 rfl (fun r28 _ => ?_)
  show GD _ _ _ _ _ [.ref r28.1] r28.2
  refine d_st (fun hX _ => g_aload_n 142 0 (hX _) dL_begins_141 rfl rfl) rfl ?_
  refine d_g (fun hX _ => e_L_71 145 (hX _) dL_begins_142 rfl) rfl ?_
  refine d_callV 148 (k_SB_appendI l g N r28.2 r28.1 (kI r28.2 w1 7)) lk_SB_append_bf812 (ci := 39) (T := TSB) (N := 4) rfl (Nat.le_of_ble_eq_true rfl) q_875 (fun s args ht => ht _ q_877) (by decide) rfl (Nat.le_of_ble_eq_true rfl) dL_begins_145 rfl (fun r29 _ => ?_)
  show GD _ _ _ _ _ [.ref r29.1] r29.2
  refine d_st (fun hX _ => g_bipush 150 (hX _) 59 dL_begins_148 rfl kc_b_59) rfl ?_
  refine d_callV 153 (k_SB_appendC l g N r29.2 r29.1 59) lk_SB_append_cf468 (ci := 39) (T := TSB) (N := 4) rfl (Nat.le_of_ble_eq_true rfl) q_900 (fun s args ht => ht _ q_902) (by decide) rfl (Nat.le_of_ble_eq_true rfl) dL_begins_150 rfl (fun r30 _ => ?_)
  show GD _ _ _ _ _ [.ref r30.1] r30.2
  refine d_klR (fun w31 hw31 => ?_)
  refine d_st (fun hX _ => g_astore_n 154 3 [(3, .ref w31), (2, .ref w1), (0, .ref a0), (1, .ref a1)] (hX _) dL_begins_153 rfl rfl (Nat.le_of_ble_eq_true rfl) rfl) rfl ?_
  refine d_st (fun hX _ => g_iconst 155 (hX _) 1 dL_begins_154 rfl kc_i_1) rfl ?_
  refine d_st (fun hX _ => g_aload_n 156 3 (hX _) dL_begins_155 rfl rfl) rfl ?_
  refine d_st (fun hX _ => g_iconst 157 (hX _) 3 dL_begins_156 rfl kc_i_3) rfl ?_
  refine d_callS 160 (k_L_draw l g N r30.2 a1 3) lk_L_draw q_736 (by decide) rfl (Nat.le_of_ble_eq_true rfl) dL_begins_157 rfl (fun r32 _ => ?_)
  show GD _ _ _ _ _ [.int r32.1, .int 1] r32.2
  refine d_st (fun hX _ => g_iadd 161 (hX _) dL_begins_160 rfl) rfl ?_
  refine d_klI (fun v33 hv33 => ?_)
  refine d_st (fun hX _ => g_istore 163 4 [(4, .int v33), (3, .ref w31), (2, .ref w1), (0, .ref a0), (1, .ref a1)] (hX _) dL_begins_161 rfl (Nat.le_of_ble_eq_true rfl) rfl) rfl ?_
  refine d_st (fun hX _ => g_lv [3, 4, 2, 1, 0] rfl) rfl ?_
  exact k_L_begins_163 N N r32.2 a0 a1 w1 w31 v33
set_option maxRecDepth 100000 in
set_option maxHeartbeats 4000000 in
theorem k_L_act_538 {l : Launch} {g : kG} {L0 : Nat} (N : Nat) : ∀ (n : Nat) (M : kMem) (a0 : Nat) (a1 : Nat) (x7 : Int32) (x8 : Int32) (x9 : Int32), GD (l, cL_act, 11, RL, g, 12, L0, (some .boolean), yL_act.name) (fun r : Int32 × kMem => (some (.int r.1), r.2)) (F_L_act_538 N n M a0 a1 x7 x8 x9) 538 [(0, .ref a0), (1, .ref a1), (7, .int x7), (8, .int x8), (9, .int x9)] [] M := by
  intro n
  induction n with
  | zero => intro _ _ _ _ _ _; exact d_none
  | succ n ih =>
    intro M a0 a1 x7 x8 x9
    unfold F_L_act_538
    refine d_st (fun hX _ => g_iload 540 4 (hX _) dL_act_538 rfl rfl) rfl ?_
    refine d_st (fun hX _ => g_iload 542 2 (hX _) dL_act_540 rfl rfl) rfl ?_
    refine d_ifN (fun hX _ => g_icmp_ge 560 545 (hX _) dL_act_542 (by decide) rfl) (fun _ => ?_) (fun _ => ?_)
    · refine d_st (fun hX _ => g_aload_n 561 0 (hX _) dL_act_560 rfl rfl) rfl ?_
      refine d_st (fun hX _ => g_iload 563 2 (hX _) dL_act_561 rfl rfl) rfl ?_
      refine d_callX 566 (k_X11_advance l g N M a0 x7) lk_X11_advance rfl (ci := 11) rfl (Nat.le_of_ble_eq_true rfl) q_2120 q_2122 (by decide) rfl (Nat.le_of_ble_eq_true rfl) dL_act_563 rfl (fun r97 _ hr97 => ?_)
      show GD _ _ _ _ _ (.int r97.1 :: []) r97.2
      refine d_st (fun hX _ => g_iload 568 3 (hX _) dL_act_566 rfl rfl) rfl ?_
      refine d_ifN (fun hX _ => g_icmp_ne 575 571 (hX _) dL_act_568 (by decide) rfl) (fun _ => ?_) (fun _ => ?_)
      · refine d_st (fun hX _ => g_iconst 576 (hX _) 0 dL_act_575 rfl kc_i_0) rfl ?_
        exact d_zretL rfl rfl rfl dL_act_576
      · refine d_st (fun hX _ => g_iconst 572 (hX _) 1 dL_act_571 rfl kc_i_1) rfl ?_
        refine d_st (fun hX _ => g_goto 576 (hX _) dL_act_572 (by decide)) rfl ?_
        exact d_zretL rfl rfl rfl dL_act_576
    · refine d_st (fun hX _ => g_iload 547 3 (hX _) dL_act_545 rfl rfl) rfl ?_
      refine d_st (fun hX _ => g_aload_n 548 1 (hX _) dL_act_547 rfl rfl) rfl ?_
      refine d_callV 551 (k_L_passes l g N M a1) lk_L_passes (ci := 30) (T := TL) (N := 12) rfl (Nat.le_of_ble_eq_true rfl) q_2051 (fun s args ht => ht _ q_33) (by decide) rfl (Nat.le_of_ble_eq_true rfl) dL_act_548 rfl (fun r98 _ => ?_)
      show GD _ _ _ _ _ [.int r98.1, .int x8] r98.2
      refine d_st (fun hX _ => g_iadd 552 (hX _) dL_act_551 rfl) rfl ?_
      refine d_klI (fun v99 hv99 => ?_)
      refine d_st (fun hX _ => g_istore 554 8 [(8, .int v99), (0, .ref a0), (1, .ref a1), (7, .int x7), (9, .int x9)] (hX _) dL_act_552 rfl (Nat.le_of_ble_eq_true rfl) rfl) rfl ?_
      refine d_kl (fun v100 hv100 => ?_)
      refine d_st (fun hX _ => g_iinc 557 9 4 v100 [(9, .int v100), (8, .int v99), (0, .ref a0), (1, .ref a1), (7, .int x7)] (hX _) dL_act_554 rfl rfl (by rw [hv100, kc_i_1]) (Nat.le_of_ble_eq_true rfl) rfl) rfl ?_
      refine d_st (fun hX _ => g_goto 538 (hX _) dL_act_557 (by decide)) rfl ?_
      refine d_st (fun hX _ => g_lv [2, 3, 4, 1, 0] rfl) rfl ?_
      exact ih r98.2 a0 a1 x7 v99 v100
set_option maxRecDepth 100000 in
set_option maxHeartbeats 4000000 in
theorem k_L_act (l : Launch) (g : kG) (N : Nat) (M : kMem) (a0 : Nat) (a1 : Nat) (a2 : Nat) : kMetD l g yL_act cL_act 11 (some .boolean) 12 [.ref a0, .ref a1, .ref a2] M (fun r : Int32 × kMem => (some (.int r.1), r.2)) (F_L_act N M a0 a1 a2) := by
  refine k_ofD (lv := [(0, .ref a0), (1, .ref a1), (2, .ref a2)]) RL (by decide) rfl rfl (Nat.le_of_ble_eq_true rfl) ?_
  unfold F_L_act
  refine d_st (fun hX _ => g_aload_n 1 2 (hX _) dL_act_0 rfl rfl) rfl ?_
  refine d_st (fun hX _ => g_aload_n 2 1 (hX _) dL_act_1 rfl rfl) rfl ?_
  refine d_g (fun hX _ => e_L_16 5 (hX _) dL_act_2 rfl) rfl ?_
  refine d_callF 10 (k_AL_size l g N M (kR M a1 1)) lk_AL_size_8abf5 (ci := 33) (T := TAL) (N := 3) rfl (Nat.le_of_ble_eq_true rfl) q_916 q_920 (by decide +kernel) (by decide +kernel) (by decide) rfl (Nat.le_of_ble_eq_true rfl) dL_act_5 rfl (fun r1 _ => ?_)
  show GD _ _ _ _ _ [.int r1, .ref a2] M
  refine d_callS 13 (k_L_draw l g N M a2 r1) lk_L_draw q_736 (by decide) rfl (Nat.le_of_ble_eq_true rfl) dL_act_10 rfl (fun r2 _ => ?_)
  show GD _ _ _ _ _ [.int r2.1] r2.2
  refine d_klI (fun v3 hv3 => ?_)
  refine d_st (fun hX _ => g_istore_n 14 3 [(3, .int v3), (0, .ref a0), (1, .ref a1), (2, .ref a2)] (hX _) dL_act_13 rfl rfl (Nat.le_of_ble_eq_true rfl) rfl) rfl ?_
  refine d_st (fun hX _ => g_aload_n 15 2 (hX _) dL_act_14 rfl rfl) rfl ?_
  refine d_g (fun hX _ => e_L_16 18 (hX _) dL_act_15 rfl) rfl ?_
  refine d_st (fun hX _ => g_iload_n 19 0 (hX _) dL_act_18 rfl rfl) rfl ?_
  refine d_callF 24 (k_AL_get l g N r2.2 (kR r2.2 a1 1) v3) lk_AL_get_915e3 (ci := 33) (T := TAL) (N := 3) rfl (Nat.le_of_ble_eq_true rfl) q_1091 q_1094 (by decide +kernel) (by decide +kernel) (by decide) rfl (Nat.le_of_ble_eq_true rfl) dL_act_19 rfl (fun r4 _ => ?_)
  show GD _ _ _ _ _ [.ref r4] r2.2
  refine d_g (fun hX _ => g_cast 27 (hX _) (ci := 32) (T := TLT) (N := 7) rfl (Nat.le_of_ble_eq_true rfl) q_1052 dL_act_24 rfl) rfl ?_
  refine d_st (fun hX _ => g_astore 29 4 [(4, .ref r4), (3, .int v3), (0, .ref a0), (1, .ref a1), (2, .ref a2)] (hX _) dL_act_27 rfl (Nat.le_of_ble_eq_true rfl) rfl) rfl ?_
  refine d_st (fun hX _ => g_iload_n 30 1 (hX _) dL_act_29 rfl rfl) rfl ?_
  refine d_st (fun hX _ => g_iconst 31 (hX _) 1 dL_act_30 rfl kc_i_1) rfl ?_
  refine d_st (fun hX _ => g_iadd 32 (hX _) dL_act_31 rfl) rfl ?_
  refine d_st (fun hX _ => g_aload_n 33 4 (hX _) dL_act_32 rfl rfl) rfl ?_
  refine d_st (fun hX _ => g_aload_n 34 3 (hX _) dL_act_33 rfl rfl) rfl ?_
  refine d_g (fun hX _ => e_L_16 37 (hX _) dL_act_34 rfl) rfl ?_
  refine d_callF 42 (k_AL_size l g N r2.2 (kR r2.2 a1 1)) lk_AL_size_8abf5 (ci := 33) (T := TAL) (N := 3) rfl (Nat.le_of_ble_eq_true rfl) q_916 q_920 (by decide +kernel) (by decide +kernel) (by decide) rfl (Nat.le_of_ble_eq_true rfl) dL_act_37 rfl (fun r5 _ => ?_)
  show GD _ _ _ _ _ [.int r5, .ref a2, .int (v3 + 1)] r2.2
  refine d_st (fun hX _ => g_iconst 43 (hX _) 1 dL_act_42 rfl kc_i_1) rfl ?_
  refine d_st (fun hX _ => g_isub 44 (hX _) dL_act_43 rfl) rfl ?_
  refine d_callS 47 (k_L_draw l g N r2.2 a2 (r5 - 1)) lk_L_draw q_736 (by decide) rfl (Nat.le_of_ble_eq_true rfl) dL_act_44 rfl (fun r6 _ => ?_)
  show GD _ _ _ _ _ [.int r6.1, .int (v3 + 1)] r6.2
  refine d_st (fun hX _ => g_iadd 48 (hX _) dL_act_47 rfl) rfl ?_
  refine d_st (fun hX _ => g_aload_n 49 3 (hX _) dL_act_48 rfl rfl) rfl ?_
  refine d_g (fun hX _ => e_L_16 52 (hX _) dL_act_49 rfl) rfl ?_
  refine d_callF 57 (k_AL_size l g N r6.2 (kR r6.2 a1 1)) lk_AL_size_8abf5 (ci := 33) (T := TAL) (N := 3) rfl (Nat.le_of_ble_eq_true rfl) q_916 q_920 (by decide +kernel) (by decide +kernel) (by decide) rfl (Nat.le_of_ble_eq_true rfl) dL_act_52 rfl (fun r7 _ => ?_)
  show GD _ _ _ _ _ [.int r7, .int ((v3 + 1) + r6.1)] r6.2
  refine d_g (fun hX _ => g_irem 58 (hX _) dL_act_57 rfl) rfl ?_
  refine d_klI (fun v8 hv8 => ?_)
  refine d_st (fun hX _ => g_istore 60 5 [(5, .int v8), (4, .ref r4), (3, .int v3), (0, .ref a0), (1, .ref a1), (2, .ref a2)] (hX _) dL_act_58 rfl (Nat.le_of_ble_eq_true rfl) rfl) rfl ?_
  refine d_st (fun hX _ => g_aload_n 61 4 (hX _) dL_act_60 rfl rfl) rfl ?_
  refine d_g (fun hX _ => e_L_16 64 (hX _) dL_act_61 rfl) rfl ?_
  refine d_st (fun hX _ => g_iload 66 0 (hX _) dL_act_64 rfl rfl) rfl ?_
  refine d_callF 71 (k_AL_get l g N r6.2 (kR r6.2 a1 1) v8) lk_AL_get_915e3 (ci := 33) (T := TAL) (N := 3) rfl (Nat.le_of_ble_eq_true rfl) q_1091 q_1094 (by decide +kernel) (by decide +kernel) (by decide) rfl (Nat.le_of_ble_eq_true rfl) dL_act_66 rfl (fun r9 _ => ?_)
  show GD _ _ _ _ _ [.ref r9] r6.2
  refine d_g (fun hX _ => g_cast 74 (hX _) (ci := 32) (T := TLT) (N := 7) rfl (Nat.le_of_ble_eq_true rfl) q_1052 dL_act_71 rfl) rfl ?_
  refine d_st (fun hX _ => g_astore 76 6 [(6, .ref r9), (5, .int v8), (4, .ref r4), (3, .int v3), (0, .ref a0), (1, .ref a1), (2, .ref a2)] (hX _) dL_act_74 rfl (Nat.le_of_ble_eq_true rfl) rfl) rfl ?_
  refine d_st (fun hX _ => g_aload_n 77 6 (hX _) dL_act_76 rfl rfl) rfl ?_
  refine d_st (fun hX _ => g_bipush 79 (hX _) 9 dL_act_77 rfl kc_b_9) rfl ?_
  refine d_callS 82 (k_L_draw l g N r6.2 a2 9) lk_L_draw q_736 (by decide) rfl (Nat.le_of_ble_eq_true rfl) dL_act_79 rfl (fun r10 _ => ?_)
  show GD _ _ _ _ _ [.int r10.1] r10.2
  refine d_ite (fun hs0 => ?_) (fun hs0 => ?_)
  · refine d_st (fun hX _ => g_tswIn 124 (hX _) 0 hs0 dL_act_82 (by decide) (by decide) rfl (by decide)) rfl ?_
    refine d_st (fun hX _ => g_aload_n 125 5 (hX _) dL_act_124 rfl rfl) rfl ?_
    refine d_g (fun hX _ => e_L_10 128 (hX _) dL_act_125 rfl) rfl ?_
    refine d_st (fun hX _ => g_aload_n 129 6 (hX _) dL_act_128 rfl rfl) rfl ?_
    refine d_st (fun hX _ => g_aload_n 130 5 (hX _) dL_act_129 rfl rfl) rfl ?_
    refine d_g (fun hX _ => e_L_10 133 (hX _) dL_act_130 rfl) rfl ?_
    refine d_callF 138 (k_AL_size l g N r10.2 (kR r10.2 a1 0)) lk_AL_size_8abf5 (ci := 33) (T := TAL) (N := 3) rfl (Nat.le_of_ble_eq_true rfl) q_916 q_920 (by decide +kernel) (by decide +kernel) (by decide) rfl (Nat.le_of_ble_eq_true rfl) dL_act_133 rfl (fun r11 _ => ?_)
    show GD _ _ _ _ _ [.int r11, .ref a2, .ref (kR r10.2 a1 0)] r10.2
    refine d_callS 141 (k_L_draw l g N r10.2 a2 r11) lk_L_draw q_736 (by decide) rfl (Nat.le_of_ble_eq_true rfl) dL_act_138 rfl (fun r12 _ => ?_)
    show GD _ _ _ _ _ [.int r12.1, .ref (kR r10.2 a1 0)] r12.2
    refine d_callF 146 (k_AL_get l g N r12.2 (kR r10.2 a1 0) r12.1) lk_AL_get_915e3 (ci := 33) (T := TAL) (N := 3) rfl (Nat.le_of_ble_eq_true rfl) q_1091 q_1094 (by decide +kernel) (by decide +kernel) (by decide) rfl (Nat.le_of_ble_eq_true rfl) dL_act_141 rfl (fun r13 _ => ?_)
    show GD _ _ _ _ _ [.ref r13] r12.2
    refine d_g (fun hX _ => g_cast 149 (hX _) (ci := 31) (T := TLB) (N := 5) rfl (Nat.le_of_ble_eq_true rfl) q_913 dL_act_146 rfl) rfl ?_
    refine d_st (fun hX _ => g_astore 151 7 [(7, .ref r13), (6, .ref r9), (5, .int v8), (4, .ref r4), (3, .int v3), (0, .ref a0), (1, .ref a1), (2, .ref a2)] (hX _) dL_act_149 rfl (Nat.le_of_ble_eq_true rfl) rfl) rfl ?_
    refine d_st (fun hX _ => g_aload 153 0 (hX _) dL_act_151 rfl rfl) rfl ?_
    refine d_st (fun hX _ => g_aload_n 154 7 (hX _) dL_act_153 rfl rfl) rfl ?_
    refine d_callS 157 (k_L_position l g N r12.2 r13 a2) lk_L_position q_1107 (by decide) rfl (Nat.le_of_ble_eq_true rfl) dL_act_154 rfl (fun r14 _ => ?_)
    show GD _ _ _ _ _ [.int r14.1] r14.2
    refine d_klI (fun v15 hv15 => ?_)
    refine d_st (fun hX _ => g_istore 159 8 [(8, .int v15), (7, .ref r13), (6, .ref r9), (5, .int v8), (4, .ref r4), (3, .int v3), (0, .ref a0), (1, .ref a1), (2, .ref a2)] (hX _) dL_act_157 rfl (Nat.le_of_ble_eq_true rfl) rfl) rfl ?_
    refine d_st (fun hX _ => g_aload_n 160 7 (hX _) dL_act_159 rfl rfl) rfl ?_
    refine d_st (fun hX _ => g_aload 162 4 (hX _) dL_act_160 rfl rfl) rfl ?_
    refine d_st (fun hX _ => g_aload 164 1 (hX _) dL_act_162 rfl rfl) rfl ?_
    refine d_st (fun hX _ => g_iload 166 0 (hX _) dL_act_164 rfl rfl) rfl ?_
    refine d_callV 169 (k_L_against l g N r14.2 a1 r4 r13 v15) lk_L_against (ci := 30) (T := TL) (N := 12) rfl (Nat.le_of_ble_eq_true rfl) q_1918 (fun s args ht => ht _ q_25) (by decide) rfl (Nat.le_of_ble_eq_true rfl) dL_act_166 rfl (fun r16 _ => ?_)
    show GD _ _ _ _ _ [.int r16.1] r16.2
    refine d_klI (fun v17 hv17 => ?_)
    refine d_st (fun hX _ => g_istore 171 9 [(9, .int v17), (8, .int v15), (7, .ref r13), (6, .ref r9), (5, .int v8), (4, .ref r4), (3, .int v3), (0, .ref a0), (1, .ref a1), (2, .ref a2)] (hX _) dL_act_169 rfl (Nat.le_of_ble_eq_true rfl) rfl) rfl ?_
    refine d_st (fun hX _ => g_aload_n 172 7 (hX _) dL_act_171 rfl rfl) rfl ?_
    refine d_st (fun hX _ => g_iload_n 173 6 (hX _) dL_act_172 rfl rfl) rfl ?_
    refine d_st (fun hX _ => g_aload 175 2 (hX _) dL_act_173 rfl rfl) rfl ?_
    refine d_g (fun hX _ => e_L_238 178 (hX _) dL_act_175 rfl) rfl ?_
    refine d_st (fun hX _ => g_iload 180 1 (hX _) dL_act_178 rfl rfl) rfl ?_
    refine d_callX 183 (k_X11_reasonAgainstSeat l g N r16.2 a0 v3 (kI r16.2 r13 0) v15) lk_X11_reasonAgainstSeat rfl (ci := 11) rfl (Nat.le_of_ble_eq_true rfl) q_1922 q_1924 (by decide) rfl (Nat.le_of_ble_eq_true rfl) dL_act_180 rfl (fun r18 _ hr18 => ?_)
    show GD _ _ _ _ _ (.int r18 :: []) r16.2
    refine d_st (fun hX _ => g_iload 185 0 (hX _) dL_act_183 rfl rfl) rfl ?_
    refine d_if (fun hX _ => g_icmp_eq 190 188 (hX _) dL_act_185 (by decide) rfl) (fun _ => ?_) (fun _ => ?_)
    · refine d_st (fun hX _ => g_iload 192 0 (hX _) dL_act_190 rfl rfl) rfl ?_
      refine d_if (fun hX _ => g_if_eq 197 195 (hX _) dL_act_192 (by decide) rfl) (fun _ => ?_) (fun _ => ?_)
      · refine d_st (fun hX _ => g_aload_n 198 8 (hX _) dL_act_197 rfl rfl) rfl ?_
        refine d_st (fun hX _ => g_aload 200 2 (hX _) dL_act_198 rfl rfl) rfl ?_
        refine d_st (fun hX _ => g_iload 202 1 (hX _) dL_act_200 rfl rfl) rfl ?_
        refine d_callV 205 (k_L_price l g N r16.2 a1 r13 v15) lk_L_price (ci := 30) (T := TL) (N := 12) rfl (Nat.le_of_ble_eq_true rfl) q_1910 (fun s args ht => ht _ q_24) (by decide) rfl (Nat.le_of_ble_eq_true rfl) dL_act_202 rfl (fun r19 _ => ?_)
        show GD _ _ _ _ _ [.int r19.1] r19.2
        refine d_klI (fun v20 hv20 => ?_)
        refine d_st (fun hX _ => g_istore 207 10 [(10, .int v20), (9, .int v17), (8, .int v15), (7, .ref r13), (6, .ref r9), (5, .int v8), (4, .ref r4), (3, .int v3), (0, .ref a0), (1, .ref a1), (2, .ref a2)] (hX _) dL_act_205 rfl (Nat.le_of_ble_eq_true rfl) rfl) rfl ?_
        refine d_st (fun hX _ => g_aload_n 208 9 (hX _) dL_act_207 rfl rfl) rfl ?_
        refine d_st (fun hX _ => g_aload 210 6 (hX _) dL_act_208 rfl rfl) rfl ?_
        refine d_st (fun hX _ => g_iload 212 0 (hX _) dL_act_210 rfl rfl) rfl ?_
        refine d_callV 215 (k_L_pays l g N r19.2 a1 r4 v20) lk_L_pays (ci := 30) (T := TL) (N := 12) rfl (Nat.le_of_ble_eq_true rfl) q_1941 (fun s args ht => ht _ q_27) (by decide) rfl (Nat.le_of_ble_eq_true rfl) dL_act_212 rfl (fun r21 _ => ?_)
        show GD _ _ _ _ _ [] r21
        refine d_st (fun hX _ => g_aload 217 6 (hX _) dL_act_215 rfl rfl) rfl ?_
        refine d_callV 220 (k_LT_rises l g N r21 r4) lk_LT_rises (ci := 32) (T := TLT) (N := 7) rfl (Nat.le_of_ble_eq_true rfl) q_1946 (fun s args ht => ht _ q_1948) (by decide) rfl (Nat.le_of_ble_eq_true rfl) dL_act_217 rfl (fun r22 _ => ?_)
        show GD _ _ _ _ _ [] r22
        refine d_st (fun hX _ => g_aload 222 6 (hX _) dL_act_220 rfl rfl) rfl ?_
        refine d_st (fun hX _ => g_aload 224 3 (hX _) dL_act_222 rfl rfl) rfl ?_
        refine d_st (fun hX _ => g_iload 226 2 (hX _) dL_act_224 rfl rfl) rfl ?_
        refine d_callV 229 (k_LT_sits l g N r22 r4 r13 v15) lk_LT_sits (ci := 32) (T := TLT) (N := 7) rfl (Nat.le_of_ble_eq_true rfl) q_1346 (fun s args ht => ht _ q_1348) (by decide) rfl (Nat.le_of_ble_eq_true rfl) dL_act_226 rfl (fun r23 _ => ?_)
        show GD _ _ _ _ _ [] r23
        refine d_st (fun hX _ => g_aload_n 230 9 (hX _) dL_act_229 rfl rfl) rfl ?_
        refine d_st (fun hX _ => g_dup 231 (hX _) dL_act_230 rfl rfl) rfl ?_
        refine d_g (fun hX _ => e_L_267 234 (hX _) dL_act_231 rfl) rfl ?_
        refine d_st (fun hX _ => g_iconst 235 (hX _) 1 dL_act_234 rfl kc_i_1) rfl ?_
        refine d_st (fun hX _ => g_iadd 236 (hX _) dL_act_235 rfl) rfl ?_
        refine d_g (fun hX _ => ui_L_267 239 (hX _) dL_act_236 rfl) rfl ?_
        refine d_klM (fun M24 hM24 => ?_)
        refine d_st (fun hX _ => g_aload_n 240 8 (hX _) dL_act_239 rfl rfl) rfl ?_
        refine d_st (fun hX _ => g_iload_n 241 7 (hX _) dL_act_240 rfl rfl) rfl ?_
        refine d_st (fun hX _ => g_aload 243 3 (hX _) dL_act_241 rfl rfl) rfl ?_
        refine d_g (fun hX _ => e_L_238 246 (hX _) dL_act_243 rfl) rfl ?_
        refine d_st (fun hX _ => g_iload 248 2 (hX _) dL_act_246 rfl rfl) rfl ?_
        refine d_callX 251 (k_X11_buySeat l g N M24 a0 v3 (kI M24 r13 0) v15) lk_X11_buySeat rfl (ci := 11) rfl (Nat.le_of_ble_eq_true rfl) q_1963 q_1965 (by decide) rfl (Nat.le_of_ble_eq_true rfl) dL_act_248 rfl (fun r25 _ hr25 => ?_)
        show GD _ _ _ _ _ (.int r25.1 :: []) r25.2
        refine d_st (fun hX _ => g_iload 253 0 (hX _) dL_act_251 rfl rfl) rfl ?_
        refine d_ifN (fun hX _ => g_icmp_ne 260 256 (hX _) dL_act_253 (by decide) rfl) (fun _ => ?_) (fun _ => ?_)
        · refine d_st (fun hX _ => g_iconst 261 (hX _) 0 dL_act_260 rfl kc_i_0) rfl ?_
          exact d_zretL rfl rfl rfl dL_act_261
        · refine d_st (fun hX _ => g_iconst 257 (hX _) 1 dL_act_256 rfl kc_i_1) rfl ?_
          refine d_st (fun hX _ => g_goto 261 (hX _) dL_act_257 (by decide)) rfl ?_
          exact d_zretL rfl rfl rfl dL_act_261
      · refine d_st (fun hX _ => g_iconst 196 (hX _) 1 dL_act_195 rfl kc_i_1) rfl ?_
        exact d_zretL rfl rfl rfl dL_act_196
    · refine d_st (fun hX _ => g_iconst 189 (hX _) 0 dL_act_188 rfl kc_i_0) rfl ?_
      exact d_zretL rfl rfl rfl dL_act_189
  · skip
    refine d_ite (fun hs1 => ?_) (fun hs1 => ?_)
    · refine d_st (fun hX _ => g_tswIn 124 (hX _) 1 hs1 dL_act_82 (by decide) (by decide) rfl (by decide)) rfl ?_
      refine d_st (fun hX _ => g_aload_n 125 5 (hX _) dL_act_124 rfl rfl) rfl ?_
      refine d_g (fun hX _ => e_L_10 128 (hX _) dL_act_125 rfl) rfl ?_
      refine d_st (fun hX _ => g_aload_n 129 6 (hX _) dL_act_128 rfl rfl) rfl ?_
      refine d_st (fun hX _ => g_aload_n 130 5 (hX _) dL_act_129 rfl rfl) rfl ?_
      refine d_g (fun hX _ => e_L_10 133 (hX _) dL_act_130 rfl) rfl ?_
      refine d_callF 138 (k_AL_size l g N r10.2 (kR r10.2 a1 0)) lk_AL_size_8abf5 (ci := 33) (T := TAL) (N := 3) rfl (Nat.le_of_ble_eq_true rfl) q_916 q_920 (by decide +kernel) (by decide +kernel) (by decide) rfl (Nat.le_of_ble_eq_true rfl) dL_act_133 rfl (fun r26 _ => ?_)
      show GD _ _ _ _ _ [.int r26, .ref a2, .ref (kR r10.2 a1 0)] r10.2
      refine d_callS 141 (k_L_draw l g N r10.2 a2 r26) lk_L_draw q_736 (by decide) rfl (Nat.le_of_ble_eq_true rfl) dL_act_138 rfl (fun r27 _ => ?_)
      show GD _ _ _ _ _ [.int r27.1, .ref (kR r10.2 a1 0)] r27.2
      refine d_callF 146 (k_AL_get l g N r27.2 (kR r10.2 a1 0) r27.1) lk_AL_get_915e3 (ci := 33) (T := TAL) (N := 3) rfl (Nat.le_of_ble_eq_true rfl) q_1091 q_1094 (by decide +kernel) (by decide +kernel) (by decide) rfl (Nat.le_of_ble_eq_true rfl) dL_act_141 rfl (fun r28 _ => ?_)
      show GD _ _ _ _ _ [.ref r28] r27.2
      refine d_g (fun hX _ => g_cast 149 (hX _) (ci := 31) (T := TLB) (N := 5) rfl (Nat.le_of_ble_eq_true rfl) q_913 dL_act_146 rfl) rfl ?_
      refine d_st (fun hX _ => g_astore 151 7 [(7, .ref r28), (6, .ref r9), (5, .int v8), (4, .ref r4), (3, .int v3), (0, .ref a0), (1, .ref a1), (2, .ref a2)] (hX _) dL_act_149 rfl (Nat.le_of_ble_eq_true rfl) rfl) rfl ?_
      refine d_st (fun hX _ => g_aload 153 0 (hX _) dL_act_151 rfl rfl) rfl ?_
      refine d_st (fun hX _ => g_aload_n 154 7 (hX _) dL_act_153 rfl rfl) rfl ?_
      refine d_callS 157 (k_L_position l g N r27.2 r28 a2) lk_L_position q_1107 (by decide) rfl (Nat.le_of_ble_eq_true rfl) dL_act_154 rfl (fun r29 _ => ?_)
      show GD _ _ _ _ _ [.int r29.1] r29.2
      refine d_klI (fun v30 hv30 => ?_)
      refine d_st (fun hX _ => g_istore 159 8 [(8, .int v30), (7, .ref r28), (6, .ref r9), (5, .int v8), (4, .ref r4), (3, .int v3), (0, .ref a0), (1, .ref a1), (2, .ref a2)] (hX _) dL_act_157 rfl (Nat.le_of_ble_eq_true rfl) rfl) rfl ?_
      refine d_st (fun hX _ => g_aload_n 160 7 (hX _) dL_act_159 rfl rfl) rfl ?_
      refine d_st (fun hX _ => g_aload 162 4 (hX _) dL_act_160 rfl rfl) rfl ?_
      refine d_st (fun hX _ => g_aload 164 1 (hX _) dL_act_162 rfl rfl) rfl ?_
      refine d_st (fun hX _ => g_iload 166 0 (hX _) dL_act_164 rfl rfl) rfl ?_
      refine d_callV 169 (k_L_against l g N r29.2 a1 r4 r28 v30) lk_L_against (ci := 30) (T := TL) (N := 12) rfl (Nat.le_of_ble_eq_true rfl) q_1918 (fun s args ht => ht _ q_25) (by decide) rfl (Nat.le_of_ble_eq_true rfl) dL_act_166 rfl (fun r31 _ => ?_)
      show GD _ _ _ _ _ [.int r31.1] r31.2
      refine d_klI (fun v32 hv32 => ?_)
      refine d_st (fun hX _ => g_istore 171 9 [(9, .int v32), (8, .int v30), (7, .ref r28), (6, .ref r9), (5, .int v8), (4, .ref r4), (3, .int v3), (0, .ref a0), (1, .ref a1), (2, .ref a2)] (hX _) dL_act_169 rfl (Nat.le_of_ble_eq_true rfl) rfl) rfl ?_
      refine d_st (fun hX _ => g_aload_n 172 7 (hX _) dL_act_171 rfl rfl) rfl ?_
      refine d_st (fun hX _ => g_iload_n 173 6 (hX _) dL_act_172 rfl rfl) rfl ?_
      refine d_st (fun hX _ => g_aload 175 2 (hX _) dL_act_173 rfl rfl) rfl ?_
      refine d_g (fun hX _ => e_L_238 178 (hX _) dL_act_175 rfl) rfl ?_
      refine d_st (fun hX _ => g_iload 180 1 (hX _) dL_act_178 rfl rfl) rfl ?_
      refine d_callX 183 (k_X11_reasonAgainstSeat l g N r31.2 a0 v3 (kI r31.2 r28 0) v30) lk_X11_reasonAgainstSeat rfl (ci := 11) rfl (Nat.le_of_ble_eq_true rfl) q_1922 q_1924 (by decide) rfl (Nat.le_of_ble_eq_true rfl) dL_act_180 rfl (fun r33 _ hr33 => ?_)
      show GD _ _ _ _ _ (.int r33 :: []) r31.2
      refine d_st (fun hX _ => g_iload 185 0 (hX _) dL_act_183 rfl rfl) rfl ?_
      refine d_if (fun hX _ => g_icmp_eq 190 188 (hX _) dL_act_185 (by decide) rfl) (fun _ => ?_) (fun _ => ?_)
      · refine d_st (fun hX _ => g_iload 192 0 (hX _) dL_act_190 rfl rfl) rfl ?_
        refine d_if (fun hX _ => g_if_eq 197 195 (hX _) dL_act_192 (by decide) rfl) (fun _ => ?_) (fun _ => ?_)
        · refine d_st (fun hX _ => g_aload_n 198 8 (hX _) dL_act_197 rfl rfl) rfl ?_
          refine d_st (fun hX _ => g_aload 200 2 (hX _) dL_act_198 rfl rfl) rfl ?_
          refine d_st (fun hX _ => g_iload 202 1 (hX _) dL_act_200 rfl rfl) rfl ?_
          refine d_callV 205 (k_L_price l g N r31.2 a1 r28 v30) lk_L_price (ci := 30) (T := TL) (N := 12) rfl (Nat.le_of_ble_eq_true rfl) q_1910 (fun s args ht => ht _ q_24) (by decide) rfl (Nat.le_of_ble_eq_true rfl) dL_act_202 rfl (fun r34 _ => ?_)
          show GD _ _ _ _ _ [.int r34.1] r34.2
          refine d_klI (fun v35 hv35 => ?_)
          refine d_st (fun hX _ => g_istore 207 10 [(10, .int v35), (9, .int v32), (8, .int v30), (7, .ref r28), (6, .ref r9), (5, .int v8), (4, .ref r4), (3, .int v3), (0, .ref a0), (1, .ref a1), (2, .ref a2)] (hX _) dL_act_205 rfl (Nat.le_of_ble_eq_true rfl) rfl) rfl ?_
          refine d_st (fun hX _ => g_aload_n 208 9 (hX _) dL_act_207 rfl rfl) rfl ?_
          refine d_st (fun hX _ => g_aload 210 6 (hX _) dL_act_208 rfl rfl) rfl ?_
          refine d_st (fun hX _ => g_iload 212 0 (hX _) dL_act_210 rfl rfl) rfl ?_
          refine d_callV 215 (k_L_pays l g N r34.2 a1 r4 v35) lk_L_pays (ci := 30) (T := TL) (N := 12) rfl (Nat.le_of_ble_eq_true rfl) q_1941 (fun s args ht => ht _ q_27) (by decide) rfl (Nat.le_of_ble_eq_true rfl) dL_act_212 rfl (fun r36 _ => ?_)
          show GD _ _ _ _ _ [] r36
          refine d_st (fun hX _ => g_aload 217 6 (hX _) dL_act_215 rfl rfl) rfl ?_
          refine d_callV 220 (k_LT_rises l g N r36 r4) lk_LT_rises (ci := 32) (T := TLT) (N := 7) rfl (Nat.le_of_ble_eq_true rfl) q_1946 (fun s args ht => ht _ q_1948) (by decide) rfl (Nat.le_of_ble_eq_true rfl) dL_act_217 rfl (fun r37 _ => ?_)
          show GD _ _ _ _ _ [] r37
          refine d_st (fun hX _ => g_aload 222 6 (hX _) dL_act_220 rfl rfl) rfl ?_
          refine d_st (fun hX _ => g_aload 224 3 (hX _) dL_act_222 rfl rfl) rfl ?_
          refine d_st (fun hX _ => g_iload 226 2 (hX _) dL_act_224 rfl rfl) rfl ?_
          refine d_callV 229 (k_LT_sits l g N r37 r4 r28 v30) lk_LT_sits (ci := 32) (T := TLT) (N := 7) rfl (Nat.le_of_ble_eq_true rfl) q_1346 (fun s args ht => ht _ q_1348) (by decide) rfl (Nat.le_of_ble_eq_true rfl) dL_act_226 rfl (fun r38 _ => ?_)
          show GD _ _ _ _ _ [] r38
          refine d_st (fun hX _ => g_aload_n 230 9 (hX _) dL_act_229 rfl rfl) rfl ?_
          refine d_st (fun hX _ => g_dup 231 (hX _) dL_act_230 rfl rfl) rfl ?_
          refine d_g (fun hX _ => e_L_267 234 (hX _) dL_act_231 rfl) rfl ?_
          refine d_st (fun hX _ => g_iconst 235 (hX _) 1 dL_act_234 rfl kc_i_1) rfl ?_
          refine d_st (fun hX _ => g_iadd 236 (hX _) dL_act_235 rfl) rfl ?_
          refine d_g (fun hX _ => ui_L_267 239 (hX _) dL_act_236 rfl) rfl ?_
          refine d_klM (fun M39 hM39 => ?_)
          refine d_st (fun hX _ => g_aload_n 240 8 (hX _) dL_act_239 rfl rfl) rfl ?_
          refine d_st (fun hX _ => g_iload_n 241 7 (hX _) dL_act_240 rfl rfl) rfl ?_
          refine d_st (fun hX _ => g_aload 243 3 (hX _) dL_act_241 rfl rfl) rfl ?_
          refine d_g (fun hX _ => e_L_238 246 (hX _) dL_act_243 rfl) rfl ?_
          refine d_st (fun hX _ => g_iload 248 2 (hX _) dL_act_246 rfl rfl) rfl ?_
          refine d_callX 251 (k_X11_buySeat l g N M39 a0 v3 (kI M39 r28 0) v30) lk_X11_buySeat rfl (ci := 11) rfl (Nat.le_of_ble_eq_true rfl) q_1963 q_1965 (by decide) rfl (Nat.le_of_ble_eq_true rfl) dL_act_248 rfl (fun r40 _ hr40 => ?_)
          show GD _ _ _ _ _ (.int r40.1 :: []) r40.2
          refine d_st (fun hX _ => g_iload 253 0 (hX _) dL_act_251 rfl rfl) rfl ?_
          refine d_ifN (fun hX _ => g_icmp_ne 260 256 (hX _) dL_act_253 (by decide) rfl) (fun _ => ?_) (fun _ => ?_)
          · refine d_st (fun hX _ => g_iconst 261 (hX _) 0 dL_act_260 rfl kc_i_0) rfl ?_
            exact d_zretL rfl rfl rfl dL_act_261
          · refine d_st (fun hX _ => g_iconst 257 (hX _) 1 dL_act_256 rfl kc_i_1) rfl ?_
            refine d_st (fun hX _ => g_goto 261 (hX _) dL_act_257 (by decide)) rfl ?_
            exact d_zretL rfl rfl rfl dL_act_261
        · refine d_st (fun hX _ => g_iconst 196 (hX _) 1 dL_act_195 rfl kc_i_1) rfl ?_
          exact d_zretL rfl rfl rfl dL_act_196
      · refine d_st (fun hX _ => g_iconst 189 (hX _) 0 dL_act_188 rfl kc_i_0) rfl ?_
        exact d_zretL rfl rfl rfl dL_act_189
    · skip
      refine d_ite (fun hs2 => ?_) (fun hs2 => ?_)
      · refine d_st (fun hX _ => g_tswIn 124 (hX _) 2 hs2 dL_act_82 (by decide) (by decide) rfl (by decide)) rfl ?_
        refine d_st (fun hX _ => g_aload_n 125 5 (hX _) dL_act_124 rfl rfl) rfl ?_
        refine d_g (fun hX _ => e_L_10 128 (hX _) dL_act_125 rfl) rfl ?_
        refine d_st (fun hX _ => g_aload_n 129 6 (hX _) dL_act_128 rfl rfl) rfl ?_
        refine d_st (fun hX _ => g_aload_n 130 5 (hX _) dL_act_129 rfl rfl) rfl ?_
        refine d_g (fun hX _ => e_L_10 133 (hX _) dL_act_130 rfl) rfl ?_
        refine d_callF 138 (k_AL_size l g N r10.2 (kR r10.2 a1 0)) lk_AL_size_8abf5 (ci := 33) (T := TAL) (N := 3) rfl (Nat.le_of_ble_eq_true rfl) q_916 q_920 (by decide +kernel) (by decide +kernel) (by decide) rfl (Nat.le_of_ble_eq_true rfl) dL_act_133 rfl (fun r41 _ => ?_)
        show GD _ _ _ _ _ [.int r41, .ref a2, .ref (kR r10.2 a1 0)] r10.2
        refine d_callS 141 (k_L_draw l g N r10.2 a2 r41) lk_L_draw q_736 (by decide) rfl (Nat.le_of_ble_eq_true rfl) dL_act_138 rfl (fun r42 _ => ?_)
        show GD _ _ _ _ _ [.int r42.1, .ref (kR r10.2 a1 0)] r42.2
        refine d_callF 146 (k_AL_get l g N r42.2 (kR r10.2 a1 0) r42.1) lk_AL_get_915e3 (ci := 33) (T := TAL) (N := 3) rfl (Nat.le_of_ble_eq_true rfl) q_1091 q_1094 (by decide +kernel) (by decide +kernel) (by decide) rfl (Nat.le_of_ble_eq_true rfl) dL_act_141 rfl (fun r43 _ => ?_)
        show GD _ _ _ _ _ [.ref r43] r42.2
        refine d_g (fun hX _ => g_cast 149 (hX _) (ci := 31) (T := TLB) (N := 5) rfl (Nat.le_of_ble_eq_true rfl) q_913 dL_act_146 rfl) rfl ?_
        refine d_st (fun hX _ => g_astore 151 7 [(7, .ref r43), (6, .ref r9), (5, .int v8), (4, .ref r4), (3, .int v3), (0, .ref a0), (1, .ref a1), (2, .ref a2)] (hX _) dL_act_149 rfl (Nat.le_of_ble_eq_true rfl) rfl) rfl ?_
        refine d_st (fun hX _ => g_aload 153 0 (hX _) dL_act_151 rfl rfl) rfl ?_
        refine d_st (fun hX _ => g_aload_n 154 7 (hX _) dL_act_153 rfl rfl) rfl ?_
        refine d_callS 157 (k_L_position l g N r42.2 r43 a2) lk_L_position q_1107 (by decide) rfl (Nat.le_of_ble_eq_true rfl) dL_act_154 rfl (fun r44 _ => ?_)
        show GD _ _ _ _ _ [.int r44.1] r44.2
        refine d_klI (fun v45 hv45 => ?_)
        refine d_st (fun hX _ => g_istore 159 8 [(8, .int v45), (7, .ref r43), (6, .ref r9), (5, .int v8), (4, .ref r4), (3, .int v3), (0, .ref a0), (1, .ref a1), (2, .ref a2)] (hX _) dL_act_157 rfl (Nat.le_of_ble_eq_true rfl) rfl) rfl ?_
        refine d_st (fun hX _ => g_aload_n 160 7 (hX _) dL_act_159 rfl rfl) rfl ?_
        refine d_st (fun hX _ => g_aload 162 4 (hX _) dL_act_160 rfl rfl) rfl ?_
        refine d_st (fun hX _ => g_aload 164 1 (hX _) dL_act_162 rfl rfl) rfl ?_
        refine d_st (fun hX _ => g_iload 166 0 (hX _) dL_act_164 rfl rfl) rfl ?_
        refine d_callV 169 (k_L_against l g N r44.2 a1 r4 r43 v45) lk_L_against (ci := 30) (T := TL) (N := 12) rfl (Nat.le_of_ble_eq_true rfl) q_1918 (fun s args ht => ht _ q_25) (by decide) rfl (Nat.le_of_ble_eq_true rfl) dL_act_166 rfl (fun r46 _ => ?_)
        show GD _ _ _ _ _ [.int r46.1] r46.2
        refine d_klI (fun v47 hv47 => ?_)
        refine d_st (fun hX _ => g_istore 171 9 [(9, .int v47), (8, .int v45), (7, .ref r43), (6, .ref r9), (5, .int v8), (4, .ref r4), (3, .int v3), (0, .ref a0), (1, .ref a1), (2, .ref a2)] (hX _) dL_act_169 rfl (Nat.le_of_ble_eq_true rfl) rfl) rfl ?_
        refine d_st (fun hX _ => g_aload_n 172 7 (hX _) dL_act_171 rfl rfl) rfl ?_
        refine d_st (fun hX _ => g_iload_n 173 6 (hX _) dL_act_172 rfl rfl) rfl ?_
        refine d_st (fun hX _ => g_aload 175 2 (hX _) dL_act_173 rfl rfl) rfl ?_
        refine d_g (fun hX _ => e_L_238 178 (hX _) dL_act_175 rfl) rfl ?_
        refine d_st (fun hX _ => g_iload 180 1 (hX _) dL_act_178 rfl rfl) rfl ?_
        refine d_callX 183 (k_X11_reasonAgainstSeat l g N r46.2 a0 v3 (kI r46.2 r43 0) v45) lk_X11_reasonAgainstSeat rfl (ci := 11) rfl (Nat.le_of_ble_eq_true rfl) q_1922 q_1924 (by decide) rfl (Nat.le_of_ble_eq_true rfl) dL_act_180 rfl (fun r48 _ hr48 => ?_)
        show GD _ _ _ _ _ (.int r48 :: []) r46.2
        refine d_st (fun hX _ => g_iload 185 0 (hX _) dL_act_183 rfl rfl) rfl ?_
        refine d_if (fun hX _ => g_icmp_eq 190 188 (hX _) dL_act_185 (by decide) rfl) (fun _ => ?_) (fun _ => ?_)
        · refine d_st (fun hX _ => g_iload 192 0 (hX _) dL_act_190 rfl rfl) rfl ?_
          refine d_if (fun hX _ => g_if_eq 197 195 (hX _) dL_act_192 (by decide) rfl) (fun _ => ?_) (fun _ => ?_)
          · refine d_st (fun hX _ => g_aload_n 198 8 (hX _) dL_act_197 rfl rfl) rfl ?_
            refine d_st (fun hX _ => g_aload 200 2 (hX _) dL_act_198 rfl rfl) rfl ?_
            refine d_st (fun hX _ => g_iload 202 1 (hX _) dL_act_200 rfl rfl) rfl ?_
            refine d_callV 205 (k_L_price l g N r46.2 a1 r43 v45) lk_L_price (ci := 30) (T := TL) (N := 12) rfl (Nat.le_of_ble_eq_true rfl) q_1910 (fun s args ht => ht _ q_24) (by decide) rfl (Nat.le_of_ble_eq_true rfl) dL_act_202 rfl (fun r49 _ => ?_)
            show GD _ _ _ _ _ [.int r49.1] r49.2
            refine d_klI (fun v50 hv50 => ?_)
            refine d_st (fun hX _ => g_istore 207 10 [(10, .int v50), (9, .int v47), (8, .int v45), (7, .ref r43), (6, .ref r9), (5, .int v8), (4, .ref r4), (3, .int v3), (0, .ref a0), (1, .ref a1), (2, .ref a2)] (hX _) dL_act_205 rfl (Nat.le_of_ble_eq_true rfl) rfl) rfl ?_
            refine d_st (fun hX _ => g_aload_n 208 9 (hX _) dL_act_207 rfl rfl) rfl ?_
            refine d_st (fun hX _ => g_aload 210 6 (hX _) dL_act_208 rfl rfl) rfl ?_
            refine d_st (fun hX _ => g_iload 212 0 (hX _) dL_act_210 rfl rfl) rfl ?_
            refine d_callV 215 (k_L_pays l g N r49.2 a1 r4 v50) lk_L_pays (ci := 30) (T := TL) (N := 12) rfl (Nat.le_of_ble_eq_true rfl) q_1941 (fun s args ht => ht _ q_27) (by decide) rfl (Nat.le_of_ble_eq_true rfl) dL_act_212 rfl (fun r51 _ => ?_)
            show GD _ _ _ _ _ [] r51
            refine d_st (fun hX _ => g_aload 217 6 (hX _) dL_act_215 rfl rfl) rfl ?_
            refine d_callV 220 (k_LT_rises l g N r51 r4) lk_LT_rises (ci := 32) (T := TLT) (N := 7) rfl (Nat.le_of_ble_eq_true rfl) q_1946 (fun s args ht => ht _ q_1948) (by decide) rfl (Nat.le_of_ble_eq_true rfl) dL_act_217 rfl (fun r52 _ => ?_)
            show GD _ _ _ _ _ [] r52
            refine d_st (fun hX _ => g_aload 222 6 (hX _) dL_act_220 rfl rfl) rfl ?_
            refine d_st (fun hX _ => g_aload 224 3 (hX _) dL_act_222 rfl rfl) rfl ?_
            refine d_st (fun hX _ => g_iload 226 2 (hX _) dL_act_224 rfl rfl) rfl ?_
            refine d_callV 229 (k_LT_sits l g N r52 r4 r43 v45) lk_LT_sits (ci := 32) (T := TLT) (N := 7) rfl (Nat.le_of_ble_eq_true rfl) q_1346 (fun s args ht => ht _ q_1348) (by decide) rfl (Nat.le_of_ble_eq_true rfl) dL_act_226 rfl (fun r53 _ => ?_)
            show GD _ _ _ _ _ [] r53
            refine d_st (fun hX _ => g_aload_n 230 9 (hX _) dL_act_229 rfl rfl) rfl ?_
            refine d_st (fun hX _ => g_dup 231 (hX _) dL_act_230 rfl rfl) rfl ?_
            refine d_g (fun hX _ => e_L_267 234 (hX _) dL_act_231 rfl) rfl ?_
            refine d_st (fun hX _ => g_iconst 235 (hX _) 1 dL_act_234 rfl kc_i_1) rfl ?_
            refine d_st (fun hX _ => g_iadd 236 (hX _) dL_act_235 rfl) rfl ?_
            refine d_g (fun hX _ => ui_L_267 239 (hX _) dL_act_236 rfl) rfl ?_
            refine d_klM (fun M54 hM54 => ?_)
            refine d_st (fun hX _ => g_aload_n 240 8 (hX _) dL_act_239 rfl rfl) rfl ?_
            refine d_st (fun hX _ => g_iload_n 241 7 (hX _) dL_act_240 rfl rfl) rfl ?_
            refine d_st (fun hX _ => g_aload 243 3 (hX _) dL_act_241 rfl rfl) rfl ?_
            refine d_g (fun hX _ => e_L_238 246 (hX _) dL_act_243 rfl) rfl ?_
            refine d_st (fun hX _ => g_iload 248 2 (hX _) dL_act_246 rfl rfl) rfl ?_
            refine d_callX 251 (k_X11_buySeat l g N M54 a0 v3 (kI M54 r43 0) v45) lk_X11_buySeat rfl (ci := 11) rfl (Nat.le_of_ble_eq_true rfl) q_1963 q_1965 (by decide) rfl (Nat.le_of_ble_eq_true rfl) dL_act_248 rfl (fun r55 _ hr55 => ?_)
            show GD _ _ _ _ _ (.int r55.1 :: []) r55.2
            refine d_st (fun hX _ => g_iload 253 0 (hX _) dL_act_251 rfl rfl) rfl ?_
            refine d_ifN (fun hX _ => g_icmp_ne 260 256 (hX _) dL_act_253 (by decide) rfl) (fun _ => ?_) (fun _ => ?_)
            · refine d_st (fun hX _ => g_iconst 261 (hX _) 0 dL_act_260 rfl kc_i_0) rfl ?_
              exact d_zretL rfl rfl rfl dL_act_261
            · refine d_st (fun hX _ => g_iconst 257 (hX _) 1 dL_act_256 rfl kc_i_1) rfl ?_
              refine d_st (fun hX _ => g_goto 261 (hX _) dL_act_257 (by decide)) rfl ?_
              exact d_zretL rfl rfl rfl dL_act_261
          · refine d_st (fun hX _ => g_iconst 196 (hX _) 1 dL_act_195 rfl kc_i_1) rfl ?_
            exact d_zretL rfl rfl rfl dL_act_196
        · refine d_st (fun hX _ => g_iconst 189 (hX _) 0 dL_act_188 rfl kc_i_0) rfl ?_
          exact d_zretL rfl rfl rfl dL_act_189
      · skip
        refine d_ite (fun hs3 => ?_) (fun hs3 => ?_)
        · refine d_st (fun hX _ => g_tswIn 262 (hX _) 3 hs3 dL_act_82 (by decide) (by decide) rfl (by decide)) rfl ?_
          refine d_st (fun hX _ => g_iconst 263 (hX _) 1 dL_act_262 rfl kc_i_1) rfl ?_
          refine d_st (fun hX _ => g_aload_n 264 6 (hX _) dL_act_263 rfl rfl) rfl ?_
          refine d_st (fun hX _ => g_bipush 266 (hX _) 9 dL_act_264 rfl kc_b_9) rfl ?_
          refine d_callS 269 (k_L_draw l g N r10.2 a2 9) lk_L_draw q_736 (by decide) rfl (Nat.le_of_ble_eq_true rfl) dL_act_266 rfl (fun r56 _ => ?_)
          show GD _ _ _ _ _ [.int r56.1, .int 1] r56.2
          refine d_st (fun hX _ => g_iadd 270 (hX _) dL_act_269 rfl) rfl ?_
          refine d_klI (fun v57 hv57 => ?_)
          refine d_st (fun hX _ => g_istore 272 7 [(7, .int v57), (6, .ref r9), (5, .int v8), (4, .ref r4), (3, .int v3), (0, .ref a0), (1, .ref a1), (2, .ref a2)] (hX _) dL_act_270 rfl (Nat.le_of_ble_eq_true rfl) rfl) rfl ?_
          refine d_st (fun hX _ => g_aload_n 273 6 (hX _) dL_act_272 rfl rfl) rfl ?_
          refine d_st (fun hX _ => g_aload 275 3 (hX _) dL_act_273 rfl rfl) rfl ?_
          refine d_st (fun hX _ => g_aload 277 1 (hX _) dL_act_275 rfl rfl) rfl ?_
          refine d_st (fun hX _ => g_iload 279 0 (hX _) dL_act_277 rfl rfl) rfl ?_
          refine d_callV 282 (k_L_against_ l g N r56.2 a1 r4 r9 v57) lk_L_against_ (ci := 30) (T := TL) (N := 12) rfl (Nat.le_of_ble_eq_true rfl) q_1986 (fun s args ht => ht _ q_30) (by decide) rfl (Nat.le_of_ble_eq_true rfl) dL_act_279 rfl (fun r58 _ => ?_)
          show GD _ _ _ _ _ [.int r58.1] r58.2
          refine d_klI (fun v59 hv59 => ?_)
          refine d_st (fun hX _ => g_istore 284 8 [(8, .int v59), (7, .int v57), (6, .ref r9), (5, .int v8), (4, .ref r4), (3, .int v3), (0, .ref a0), (1, .ref a1), (2, .ref a2)] (hX _) dL_act_282 rfl (Nat.le_of_ble_eq_true rfl) rfl) rfl ?_
          refine d_st (fun hX _ => g_aload_n 285 6 (hX _) dL_act_284 rfl rfl) rfl ?_
          refine d_st (fun hX _ => g_iload_n 286 5 (hX _) dL_act_285 rfl rfl) rfl ?_
          refine d_st (fun hX _ => g_iload 288 3 (hX _) dL_act_286 rfl rfl) rfl ?_
          refine d_st (fun hX _ => g_iload 290 1 (hX _) dL_act_288 rfl rfl) rfl ?_
          refine d_callX 293 (k_X11_reasonAgainstSale l g N r58.2 a0 v3 v8 v57) lk_X11_reasonAgainstSale rfl (ci := 11) rfl (Nat.le_of_ble_eq_true rfl) q_1994 q_1996 (by decide) rfl (Nat.le_of_ble_eq_true rfl) dL_act_290 rfl (fun r60 _ hr60 => ?_)
          show GD _ _ _ _ _ (.int r60.1 :: []) r60.2
          refine d_st (fun hX _ => g_iload 295 0 (hX _) dL_act_293 rfl rfl) rfl ?_
          refine d_if (fun hX _ => g_icmp_eq 300 298 (hX _) dL_act_295 (by decide) rfl) (fun _ => ?_) (fun _ => ?_)
          · refine d_st (fun hX _ => g_iload 302 0 (hX _) dL_act_300 rfl rfl) rfl ?_
            refine d_if (fun hX _ => g_if_eq 307 305 (hX _) dL_act_302 (by decide) rfl) (fun _ => ?_) (fun _ => ?_)
            · refine d_st (fun hX _ => g_iload 309 1 (hX _) dL_act_307 rfl rfl) rfl ?_
              refine d_st (fun hX _ => g_aload_n 310 7 (hX _) dL_act_309 rfl rfl) rfl ?_
              refine d_st (fun hX _ => g_aload 312 4 (hX _) dL_act_310 rfl rfl) rfl ?_
              refine d_st (fun hX _ => g_aload 314 2 (hX _) dL_act_312 rfl rfl) rfl ?_
              refine d_callV 317 (k_L_unit l g N r60.2 a1 r4 r9) lk_L_unit (ci := 30) (T := TL) (N := 12) rfl (Nat.le_of_ble_eq_true rfl) q_1990 (fun s args ht => ht _ q_31) (by decide) rfl (Nat.le_of_ble_eq_true rfl) dL_act_314 rfl (fun r61 _ => ?_)
              show GD _ _ _ _ _ [.int r61.1, .int v57] r61.2
              refine d_st (fun hX _ => g_imul 318 (hX _) dL_act_317 rfl) rfl ?_
              refine d_klI (fun v62 hv62 => ?_)
              refine d_st (fun hX _ => g_istore 320 9 [(9, .int v62), (8, .int v59), (7, .int v57), (6, .ref r9), (5, .int v8), (4, .ref r4), (3, .int v3), (0, .ref a0), (1, .ref a1), (2, .ref a2)] (hX _) dL_act_318 rfl (Nat.le_of_ble_eq_true rfl) rfl) rfl ?_
              refine d_st (fun hX _ => g_aload 322 5 (hX _) dL_act_320 rfl rfl) rfl ?_
              refine d_st (fun hX _ => g_dup 323 (hX _) dL_act_322 rfl rfl) rfl ?_
              refine d_g (fun hX _ => e_L_158 326 (hX _) dL_act_323 rfl) rfl ?_
              refine d_st (fun hX _ => g_iload 328 2 (hX _) dL_act_326 rfl rfl) rfl ?_
              refine d_st (fun hX _ => g_isub 329 (hX _) dL_act_328 rfl) rfl ?_
              refine d_g (fun hX _ => ui_L_158 332 (hX _) dL_act_329 rfl) rfl ?_
              refine d_klM (fun M63 hM63 => ?_)
              refine d_st (fun hX _ => g_aload 334 3 (hX _) dL_act_332 rfl rfl) rfl ?_
              refine d_st (fun hX _ => g_dup 335 (hX _) dL_act_334 rfl rfl) rfl ?_
              refine d_g (fun hX _ => e_L_158 338 (hX _) dL_act_335 rfl) rfl ?_
              refine d_st (fun hX _ => g_iload 340 2 (hX _) dL_act_338 rfl rfl) rfl ?_
              refine d_st (fun hX _ => g_iadd 341 (hX _) dL_act_340 rfl) rfl ?_
              refine d_g (fun hX _ => ui_L_158 344 (hX _) dL_act_341 rfl) rfl ?_
              refine d_klM (fun M64 hM64 => ?_)
              refine d_st (fun hX _ => g_aload 346 5 (hX _) dL_act_344 rfl rfl) rfl ?_
              refine d_st (fun hX _ => g_dup 347 (hX _) dL_act_346 rfl rfl) rfl ?_
              refine d_g (fun hX _ => e_L_77 350 (hX _) dL_act_347 rfl) rfl ?_
              refine d_st (fun hX _ => g_iload 352 0 (hX _) dL_act_350 rfl rfl) rfl ?_
              refine d_st (fun hX _ => g_iadd 353 (hX _) dL_act_352 rfl) rfl ?_
              refine d_g (fun hX _ => ui_L_77 356 (hX _) dL_act_353 rfl) rfl ?_
              refine d_klM (fun M65 hM65 => ?_)
              refine d_st (fun hX _ => g_aload 358 3 (hX _) dL_act_356 rfl rfl) rfl ?_
              refine d_st (fun hX _ => g_dup 359 (hX _) dL_act_358 rfl rfl) rfl ?_
              refine d_g (fun hX _ => e_L_77 362 (hX _) dL_act_359 rfl) rfl ?_
              refine d_st (fun hX _ => g_iload 364 0 (hX _) dL_act_362 rfl rfl) rfl ?_
              refine d_st (fun hX _ => g_isub 365 (hX _) dL_act_364 rfl) rfl ?_
              refine d_g (fun hX _ => ui_L_77 368 (hX _) dL_act_365 rfl) rfl ?_
              refine d_klM (fun M66 hM66 => ?_)
              refine d_st (fun hX _ => g_aload_n 369 8 (hX _) dL_act_368 rfl rfl) rfl ?_
              refine d_st (fun hX _ => g_dup 370 (hX _) dL_act_369 rfl rfl) rfl ?_
              refine d_g (fun hX _ => e_L_273 373 (hX _) dL_act_370 rfl) rfl ?_
              refine d_st (fun hX _ => g_iload 375 2 (hX _) dL_act_373 rfl rfl) rfl ?_
              refine d_st (fun hX _ => g_iadd 376 (hX _) dL_act_375 rfl) rfl ?_
              refine d_g (fun hX _ => ui_L_273 379 (hX _) dL_act_376 rfl) rfl ?_
              refine d_klM (fun M67 hM67 => ?_)
              refine d_st (fun hX _ => g_aload_n 380 7 (hX _) dL_act_379 rfl rfl) rfl ?_
              refine d_st (fun hX _ => g_iload_n 381 6 (hX _) dL_act_380 rfl rfl) rfl ?_
              refine d_st (fun hX _ => g_iload 383 4 (hX _) dL_act_381 rfl rfl) rfl ?_
              refine d_st (fun hX _ => g_iload 385 2 (hX _) dL_act_383 rfl rfl) rfl ?_
              refine d_callX 388 (k_X11_sellWeight l g N M67 a0 v3 v8 v57) lk_X11_sellWeight rfl (ci := 11) rfl (Nat.le_of_ble_eq_true rfl) q_2010 q_2012 (by decide) rfl (Nat.le_of_ble_eq_true rfl) dL_act_385 rfl (fun r68 _ hr68 => ?_)
              show GD _ _ _ _ _ (.int r68.1 :: []) r68.2
              refine d_st (fun hX _ => g_iload 390 0 (hX _) dL_act_388 rfl rfl) rfl ?_
              refine d_ifN (fun hX _ => g_icmp_ne 397 393 (hX _) dL_act_390 (by decide) rfl) (fun _ => ?_) (fun _ => ?_)
              · refine d_st (fun hX _ => g_iconst 398 (hX _) 0 dL_act_397 rfl kc_i_0) rfl ?_
                exact d_zretL rfl rfl rfl dL_act_398
              · refine d_st (fun hX _ => g_iconst 394 (hX _) 1 dL_act_393 rfl kc_i_1) rfl ?_
                refine d_st (fun hX _ => g_goto 398 (hX _) dL_act_394 (by decide)) rfl ?_
                exact d_zretL rfl rfl rfl dL_act_398
            · refine d_st (fun hX _ => g_iconst 306 (hX _) 1 dL_act_305 rfl kc_i_1) rfl ?_
              exact d_zretL rfl rfl rfl dL_act_306
          · refine d_st (fun hX _ => g_iconst 299 (hX _) 0 dL_act_298 rfl kc_i_0) rfl ?_
            exact d_zretL rfl rfl rfl dL_act_299
        · skip
          refine d_ite (fun hs4 => ?_) (fun hs4 => ?_)
          · refine d_st (fun hX _ => g_tswIn 262 (hX _) 4 hs4 dL_act_82 (by decide) (by decide) rfl (by decide)) rfl ?_
            refine d_st (fun hX _ => g_iconst 263 (hX _) 1 dL_act_262 rfl kc_i_1) rfl ?_
            refine d_st (fun hX _ => g_aload_n 264 6 (hX _) dL_act_263 rfl rfl) rfl ?_
            refine d_st (fun hX _ => g_bipush 266 (hX _) 9 dL_act_264 rfl kc_b_9) rfl ?_
            refine d_callS 269 (k_L_draw l g N r10.2 a2 9) lk_L_draw q_736 (by decide) rfl (Nat.le_of_ble_eq_true rfl) dL_act_266 rfl (fun r69 _ => ?_)
            show GD _ _ _ _ _ [.int r69.1, .int 1] r69.2
            refine d_st (fun hX _ => g_iadd 270 (hX _) dL_act_269 rfl) rfl ?_
            refine d_klI (fun v70 hv70 => ?_)
            refine d_st (fun hX _ => g_istore 272 7 [(7, .int v70), (6, .ref r9), (5, .int v8), (4, .ref r4), (3, .int v3), (0, .ref a0), (1, .ref a1), (2, .ref a2)] (hX _) dL_act_270 rfl (Nat.le_of_ble_eq_true rfl) rfl) rfl ?_
            refine d_st (fun hX _ => g_aload_n 273 6 (hX _) dL_act_272 rfl rfl) rfl ?_
            refine d_st (fun hX _ => g_aload 275 3 (hX _) dL_act_273 rfl rfl) rfl ?_
            refine d_st (fun hX _ => g_aload 277 1 (hX _) dL_act_275 rfl rfl) rfl ?_
            refine d_st (fun hX _ => g_iload 279 0 (hX _) dL_act_277 rfl rfl) rfl ?_
            refine d_callV 282 (k_L_against_ l g N r69.2 a1 r4 r9 v70) lk_L_against_ (ci := 30) (T := TL) (N := 12) rfl (Nat.le_of_ble_eq_true rfl) q_1986 (fun s args ht => ht _ q_30) (by decide) rfl (Nat.le_of_ble_eq_true rfl) dL_act_279 rfl (fun r71 _ => ?_)
            show GD _ _ _ _ _ [.int r71.1] r71.2
            refine d_klI (fun v72 hv72 => ?_)
            refine d_st (fun hX _ => g_istore 284 8 [(8, .int v72), (7, .int v70), (6, .ref r9), (5, .int v8), (4, .ref r4), (3, .int v3), (0, .ref a0), (1, .ref a1), (2, .ref a2)] (hX _) dL_act_282 rfl (Nat.le_of_ble_eq_true rfl) rfl) rfl ?_
            refine d_st (fun hX _ => g_aload_n 285 6 (hX _) dL_act_284 rfl rfl) rfl ?_
            refine d_st (fun hX _ => g_iload_n 286 5 (hX _) dL_act_285 rfl rfl) rfl ?_
            refine d_st (fun hX _ => g_iload 288 3 (hX _) dL_act_286 rfl rfl) rfl ?_
            refine d_st (fun hX _ => g_iload 290 1 (hX _) dL_act_288 rfl rfl) rfl ?_
            refine d_callX 293 (k_X11_reasonAgainstSale l g N r71.2 a0 v3 v8 v70) lk_X11_reasonAgainstSale rfl (ci := 11) rfl (Nat.le_of_ble_eq_true rfl) q_1994 q_1996 (by decide) rfl (Nat.le_of_ble_eq_true rfl) dL_act_290 rfl (fun r73 _ hr73 => ?_)
            show GD _ _ _ _ _ (.int r73.1 :: []) r73.2
            refine d_st (fun hX _ => g_iload 295 0 (hX _) dL_act_293 rfl rfl) rfl ?_
            refine d_if (fun hX _ => g_icmp_eq 300 298 (hX _) dL_act_295 (by decide) rfl) (fun _ => ?_) (fun _ => ?_)
            · refine d_st (fun hX _ => g_iload 302 0 (hX _) dL_act_300 rfl rfl) rfl ?_
              refine d_if (fun hX _ => g_if_eq 307 305 (hX _) dL_act_302 (by decide) rfl) (fun _ => ?_) (fun _ => ?_)
              · refine d_st (fun hX _ => g_iload 309 1 (hX _) dL_act_307 rfl rfl) rfl ?_
                refine d_st (fun hX _ => g_aload_n 310 7 (hX _) dL_act_309 rfl rfl) rfl ?_
                refine d_st (fun hX _ => g_aload 312 4 (hX _) dL_act_310 rfl rfl) rfl ?_
                refine d_st (fun hX _ => g_aload 314 2 (hX _) dL_act_312 rfl rfl) rfl ?_
                refine d_callV 317 (k_L_unit l g N r73.2 a1 r4 r9) lk_L_unit (ci := 30) (T := TL) (N := 12) rfl (Nat.le_of_ble_eq_true rfl) q_1990 (fun s args ht => ht _ q_31) (by decide) rfl (Nat.le_of_ble_eq_true rfl) dL_act_314 rfl (fun r74 _ => ?_)
                show GD _ _ _ _ _ [.int r74.1, .int v70] r74.2
                refine d_st (fun hX _ => g_imul 318 (hX _) dL_act_317 rfl) rfl ?_
                refine d_klI (fun v75 hv75 => ?_)
                refine d_st (fun hX _ => g_istore 320 9 [(9, .int v75), (8, .int v72), (7, .int v70), (6, .ref r9), (5, .int v8), (4, .ref r4), (3, .int v3), (0, .ref a0), (1, .ref a1), (2, .ref a2)] (hX _) dL_act_318 rfl (Nat.le_of_ble_eq_true rfl) rfl) rfl ?_
                refine d_st (fun hX _ => g_aload 322 5 (hX _) dL_act_320 rfl rfl) rfl ?_
                refine d_st (fun hX _ => g_dup 323 (hX _) dL_act_322 rfl rfl) rfl ?_
                refine d_g (fun hX _ => e_L_158 326 (hX _) dL_act_323 rfl) rfl ?_
                refine d_st (fun hX _ => g_iload 328 2 (hX _) dL_act_326 rfl rfl) rfl ?_
                refine d_st (fun hX _ => g_isub 329 (hX _) dL_act_328 rfl) rfl ?_
                refine d_g (fun hX _ => ui_L_158 332 (hX _) dL_act_329 rfl) rfl ?_
                refine d_klM (fun M76 hM76 => ?_)
                refine d_st (fun hX _ => g_aload 334 3 (hX _) dL_act_332 rfl rfl) rfl ?_
                refine d_st (fun hX _ => g_dup 335 (hX _) dL_act_334 rfl rfl) rfl ?_
                refine d_g (fun hX _ => e_L_158 338 (hX _) dL_act_335 rfl) rfl ?_
                refine d_st (fun hX _ => g_iload 340 2 (hX _) dL_act_338 rfl rfl) rfl ?_
                refine d_st (fun hX _ => g_iadd 341 (hX _) dL_act_340 rfl) rfl ?_
                refine d_g (fun hX _ => ui_L_158 344 (hX _) dL_act_341 rfl) rfl ?_
                refine d_klM (fun M77 hM77 => ?_)
                refine d_st (fun hX _ => g_aload 346 5 (hX _) dL_act_344 rfl rfl) rfl ?_
                refine d_st (fun hX _ => g_dup 347 (hX _) dL_act_346 rfl rfl) rfl ?_
                refine d_g (fun hX _ => e_L_77 350 (hX _) dL_act_347 rfl) rfl ?_
                refine d_st (fun hX _ => g_iload 352 0 (hX _) dL_act_350 rfl rfl) rfl ?_
                refine d_st (fun hX _ => g_iadd 353 (hX _) dL_act_352 rfl) rfl ?_
                refine d_g (fun hX _ => ui_L_77 356 (hX _) dL_act_353 rfl) rfl ?_
                refine d_klM (fun M78 hM78 => ?_)
                refine d_st (fun hX _ => g_aload 358 3 (hX _) dL_act_356 rfl rfl) rfl ?_
                refine d_st (fun hX _ => g_dup 359 (hX _) dL_act_358 rfl rfl) rfl ?_
                refine d_g (fun hX _ => e_L_77 362 (hX _) dL_act_359 rfl) rfl ?_
                refine d_st (fun hX _ => g_iload 364 0 (hX _) dL_act_362 rfl rfl) rfl ?_
                refine d_st (fun hX _ => g_isub 365 (hX _) dL_act_364 rfl) rfl ?_
                refine d_g (fun hX _ => ui_L_77 368 (hX _) dL_act_365 rfl) rfl ?_
                refine d_klM (fun M79 hM79 => ?_)
                refine d_st (fun hX _ => g_aload_n 369 8 (hX _) dL_act_368 rfl rfl) rfl ?_
                refine d_st (fun hX _ => g_dup 370 (hX _) dL_act_369 rfl rfl) rfl ?_
                refine d_g (fun hX _ => e_L_273 373 (hX _) dL_act_370 rfl) rfl ?_
                refine d_st (fun hX _ => g_iload 375 2 (hX _) dL_act_373 rfl rfl) rfl ?_
                refine d_st (fun hX _ => g_iadd 376 (hX _) dL_act_375 rfl) rfl ?_
                refine d_g (fun hX _ => ui_L_273 379 (hX _) dL_act_376 rfl) rfl ?_
                refine d_klM (fun M80 hM80 => ?_)
                refine d_st (fun hX _ => g_aload_n 380 7 (hX _) dL_act_379 rfl rfl) rfl ?_
                refine d_st (fun hX _ => g_iload_n 381 6 (hX _) dL_act_380 rfl rfl) rfl ?_
                refine d_st (fun hX _ => g_iload 383 4 (hX _) dL_act_381 rfl rfl) rfl ?_
                refine d_st (fun hX _ => g_iload 385 2 (hX _) dL_act_383 rfl rfl) rfl ?_
                refine d_callX 388 (k_X11_sellWeight l g N M80 a0 v3 v8 v70) lk_X11_sellWeight rfl (ci := 11) rfl (Nat.le_of_ble_eq_true rfl) q_2010 q_2012 (by decide) rfl (Nat.le_of_ble_eq_true rfl) dL_act_385 rfl (fun r81 _ hr81 => ?_)
                show GD _ _ _ _ _ (.int r81.1 :: []) r81.2
                refine d_st (fun hX _ => g_iload 390 0 (hX _) dL_act_388 rfl rfl) rfl ?_
                refine d_ifN (fun hX _ => g_icmp_ne 397 393 (hX _) dL_act_390 (by decide) rfl) (fun _ => ?_) (fun _ => ?_)
                · refine d_st (fun hX _ => g_iconst 398 (hX _) 0 dL_act_397 rfl kc_i_0) rfl ?_
                  exact d_zretL rfl rfl rfl dL_act_398
                · refine d_st (fun hX _ => g_iconst 394 (hX _) 1 dL_act_393 rfl kc_i_1) rfl ?_
                  refine d_st (fun hX _ => g_goto 398 (hX _) dL_act_394 (by decide)) rfl ?_
                  exact d_zretL rfl rfl rfl dL_act_398
              · refine d_st (fun hX _ => g_iconst 306 (hX _) 1 dL_act_305 rfl kc_i_1) rfl ?_
                exact d_zretL rfl rfl rfl dL_act_306
            · refine d_st (fun hX _ => g_iconst 299 (hX _) 0 dL_act_298 rfl kc_i_0) rfl ?_
              exact d_zretL rfl rfl rfl dL_act_299
          · skip
            refine d_ite (fun hs5 => ?_) (fun hs5 => ?_)
            · refine d_st (fun hX _ => g_tswIn 399 (hX _) 5 hs5 dL_act_82 (by decide) (by decide) rfl (by decide)) rfl ?_
              refine d_st (fun hX _ => g_aload 401 2 (hX _) dL_act_399 rfl rfl) rfl ?_
              refine d_st (fun hX _ => g_aload 403 0 (hX _) dL_act_401 rfl rfl) rfl ?_
              refine d_callS 406 (k_L_against__ l g N r10.2 r4 r9) lk_L_against__ q_2018 (by decide) rfl (Nat.le_of_ble_eq_true rfl) dL_act_403 rfl (fun r82 _ => ?_)
              show GD _ _ _ _ _ [.int r82.1] r82.2
              refine d_klI (fun v83 hv83 => ?_)
              refine d_st (fun hX _ => g_istore 408 7 [(7, .int v83), (6, .ref r9), (5, .int v8), (4, .ref r4), (3, .int v3), (0, .ref a0), (1, .ref a1), (2, .ref a2)] (hX _) dL_act_406 rfl (Nat.le_of_ble_eq_true rfl) rfl) rfl ?_
              refine d_st (fun hX _ => g_aload_n 409 5 (hX _) dL_act_408 rfl rfl) rfl ?_
              refine d_st (fun hX _ => g_iload_n 410 4 (hX _) dL_act_409 rfl rfl) rfl ?_
              refine d_st (fun hX _ => g_iload 412 2 (hX _) dL_act_410 rfl rfl) rfl ?_
              refine d_callX 415 (k_X11_reasonAgainstSwap l g N r82.2 a0 v3 v8) lk_X11_reasonAgainstSwap rfl (ci := 11) rfl (Nat.le_of_ble_eq_true rfl) q_2027 q_2029 (by decide) rfl (Nat.le_of_ble_eq_true rfl) dL_act_412 rfl (fun r84 _ hr84 => ?_)
              show GD _ _ _ _ _ (.int r84.1 :: []) r84.2
              refine d_st (fun hX _ => g_iload 417 0 (hX _) dL_act_415 rfl rfl) rfl ?_
              refine d_if (fun hX _ => g_icmp_eq 422 420 (hX _) dL_act_417 (by decide) rfl) (fun _ => ?_) (fun _ => ?_)
              · refine d_st (fun hX _ => g_iload 424 0 (hX _) dL_act_422 rfl rfl) rfl ?_
                refine d_if (fun hX _ => g_if_eq 429 427 (hX _) dL_act_424 (by decide) rfl) (fun _ => ?_) (fun _ => ?_)
                · refine d_st (fun hX _ => g_aload 431 3 (hX _) dL_act_429 rfl rfl) rfl ?_
                  refine d_st (fun hX _ => g_aload 433 1 (hX _) dL_act_431 rfl rfl) rfl ?_
                  refine d_callS 436 (k_L_more l g N r84.2 r4 r9) lk_L_more q_2021 (by decide) rfl (Nat.le_of_ble_eq_true rfl) dL_act_433 rfl (fun r85 _ => ?_)
                  show GD _ _ _ _ _ [.int r85.1] r85.2
                  refine d_klI (fun v86 hv86 => ?_)
                  refine d_st (fun hX _ => g_istore 438 8 [(8, .int v86), (7, .int v83), (6, .ref r9), (5, .int v8), (4, .ref r4), (3, .int v3), (0, .ref a0), (1, .ref a1), (2, .ref a2)] (hX _) dL_act_436 rfl (Nat.le_of_ble_eq_true rfl) rfl) rfl ?_
                  refine d_st (fun hX _ => g_aload 440 4 (hX _) dL_act_438 rfl rfl) rfl ?_
                  refine d_st (fun hX _ => g_dup 441 (hX _) dL_act_440 rfl rfl) rfl ?_
                  refine d_g (fun hX _ => e_L_77 444 (hX _) dL_act_441 rfl) rfl ?_
                  refine d_st (fun hX _ => g_iload 446 0 (hX _) dL_act_444 rfl rfl) rfl ?_
                  refine d_st (fun hX _ => g_isub 447 (hX _) dL_act_446 rfl) rfl ?_
                  refine d_g (fun hX _ => ui_L_77 450 (hX _) dL_act_447 rfl) rfl ?_
                  refine d_klM (fun M87 hM87 => ?_)
                  refine d_st (fun hX _ => g_aload 452 2 (hX _) dL_act_450 rfl rfl) rfl ?_
                  refine d_st (fun hX _ => g_dup 453 (hX _) dL_act_452 rfl rfl) rfl ?_
                  refine d_g (fun hX _ => e_L_77 456 (hX _) dL_act_453 rfl) rfl ?_
                  refine d_st (fun hX _ => g_iload 458 0 (hX _) dL_act_456 rfl rfl) rfl ?_
                  refine d_st (fun hX _ => g_iadd 459 (hX _) dL_act_458 rfl) rfl ?_
                  refine d_g (fun hX _ => ui_L_77 462 (hX _) dL_act_459 rfl) rfl ?_
                  refine d_klM (fun M88 hM88 => ?_)
                  refine d_st (fun hX _ => g_aload 464 4 (hX _) dL_act_462 rfl rfl) rfl ?_
                  refine d_st (fun hX _ => g_aload 466 2 (hX _) dL_act_464 rfl rfl) rfl ?_
                  refine d_callS 469 (k_L_exchange l g N M88 r4 r9) lk_L_exchange q_2024 (by decide) rfl (Nat.le_of_ble_eq_true rfl) dL_act_466 rfl (fun r89 _ => ?_)
                  show GD _ _ _ _ _ [] r89
                  refine d_st (fun hX _ => g_aload_n 470 6 (hX _) dL_act_469 rfl rfl) rfl ?_
                  refine d_st (fun hX _ => g_iload_n 471 5 (hX _) dL_act_470 rfl rfl) rfl ?_
                  refine d_st (fun hX _ => g_iload 473 3 (hX _) dL_act_471 rfl rfl) rfl ?_
                  refine d_callX 476 (k_X11_swapSeats l g N r89 a0 v3 v8) lk_X11_swapSeats rfl (ci := 11) rfl (Nat.le_of_ble_eq_true rfl) q_2039 q_2041 (by decide) rfl (Nat.le_of_ble_eq_true rfl) dL_act_473 rfl (fun r90 _ hr90 => ?_)
                  show GD _ _ _ _ _ (.int r90.1 :: []) r90.2
                  refine d_st (fun hX _ => g_iload 478 0 (hX _) dL_act_476 rfl rfl) rfl ?_
                  refine d_ifN (fun hX _ => g_icmp_ne 485 481 (hX _) dL_act_478 (by decide) rfl) (fun _ => ?_) (fun _ => ?_)
                  · refine d_st (fun hX _ => g_iconst 486 (hX _) 0 dL_act_485 rfl kc_i_0) rfl ?_
                    exact d_zretL rfl rfl rfl dL_act_486
                  · refine d_st (fun hX _ => g_iconst 482 (hX _) 1 dL_act_481 rfl kc_i_1) rfl ?_
                    refine d_st (fun hX _ => g_goto 486 (hX _) dL_act_482 (by decide)) rfl ?_
                    exact d_zretL rfl rfl rfl dL_act_486
                · refine d_st (fun hX _ => g_iconst 428 (hX _) 1 dL_act_427 rfl kc_i_1) rfl ?_
                  exact d_zretL rfl rfl rfl dL_act_428
              · refine d_st (fun hX _ => g_iconst 421 (hX _) 0 dL_act_420 rfl kc_i_0) rfl ?_
                exact d_zretL rfl rfl rfl dL_act_421
            · skip
              refine d_ite (fun hs6 => ?_) (fun hs6 => ?_)
              · refine d_st (fun hX _ => g_tswIn 487 (hX _) 6 hs6 dL_act_82 (by decide) (by decide) rfl (by decide)) rfl ?_
                refine d_st (fun hX _ => g_aload_n 488 5 (hX _) dL_act_487 rfl rfl) rfl ?_
                refine d_g (fun hX _ => e_L_59 491 (hX _) dL_act_488 rfl) rfl ?_
                refine d_klI (fun v91 hv91 => ?_)
                refine d_st (fun hX _ => g_istore 493 7 [(7, .int v91), (6, .ref r9), (5, .int v8), (4, .ref r4), (3, .int v3), (0, .ref a0), (1, .ref a1), (2, .ref a2)] (hX _) dL_act_491 rfl (Nat.le_of_ble_eq_true rfl) rfl) rfl ?_
                refine d_st (fun hX _ => g_aload_n 494 6 (hX _) dL_act_493 rfl rfl) rfl ?_
                refine d_st (fun hX _ => g_aload_n 495 7 (hX _) dL_act_494 rfl rfl) rfl ?_
                refine d_st (fun hX _ => g_bipush 497 (hX _) 12 dL_act_495 rfl kc_b_12) rfl ?_
                refine d_callS 500 (k_L_draw l g N r10.2 a2 12) lk_L_draw q_736 (by decide) rfl (Nat.le_of_ble_eq_true rfl) dL_act_497 rfl (fun r92 _ => ?_)
                show GD _ _ _ _ _ [.int r92.1, .ref a1] r92.2
                refine d_g (fun hX _ => ui_L_59 503 (hX _) dL_act_500 rfl) rfl ?_
                refine d_klM (fun M93 hM93 => ?_)
                refine d_st (fun hX _ => g_aload_n 504 5 (hX _) dL_act_503 rfl rfl) rfl ?_
                refine d_st (fun hX _ => g_aload_n 505 6 (hX _) dL_act_504 rfl rfl) rfl ?_
                refine d_g (fun hX _ => e_L_59 508 (hX _) dL_act_505 rfl) rfl ?_
                refine d_callX 511 (k_X11_setWage l g N M93 a0 (kI M93 a1 2)) lk_X11_setWage rfl (ci := 11) rfl (Nat.le_of_ble_eq_true rfl) q_2047 q_2049 (by decide) rfl (Nat.le_of_ble_eq_true rfl) dL_act_508 rfl (fun r94 _ hr94 => ?_)
                show GD _ _ _ _ _ (.int r94.1 :: []) r94.2
                refine d_st (fun hX _ => g_iload 513 0 (hX _) dL_act_511 rfl rfl) rfl ?_
                refine d_ifN (fun hX _ => g_icmp_ne 520 516 (hX _) dL_act_513 (by decide) rfl) (fun _ => ?_) (fun _ => ?_)
                · refine d_st (fun hX _ => g_iconst 521 (hX _) 0 dL_act_520 rfl kc_i_0) rfl ?_
                  exact d_zretL rfl rfl rfl dL_act_521
                · refine d_st (fun hX _ => g_iconst 517 (hX _) 1 dL_act_516 rfl kc_i_1) rfl ?_
                  refine d_st (fun hX _ => g_goto 521 (hX _) dL_act_517 (by decide)) rfl ?_
                  exact d_zretL rfl rfl rfl dL_act_521
              · skip
                have hs0 := lv_neT hs0 (k := 0) (a := 0) (by decide)
                have hs1 := lv_neT hs1 (k := 1) (a := 1) (by decide)
                have hs2 := lv_neT hs2 (k := 2) (a := 2) (by decide)
                have hs3 := lv_neT hs3 (k := 3) (a := 3) (by decide)
                have hs4 := lv_neT hs4 (k := 4) (a := 4) (by decide)
                have hs5 := lv_neT hs5 (k := 5) (a := 5) (by decide)
                have hs6 := lv_neT hs6 (k := 6) (a := 6) (by decide)
                refine d_st (fun hX _ => g_tswOut 522 (hX _) dL_act_82 (by omega) (by decide)) rfl ?_
                refine d_st (fun hX _ => g_iconst 523 (hX _) 1 dL_act_522 rfl kc_i_1) rfl ?_
                refine d_st (fun hX _ => g_aload_n 524 6 (hX _) dL_act_523 rfl rfl) rfl ?_
                refine d_st (fun hX _ => g_bipush 526 (hX _) 6 dL_act_524 rfl kc_b_6) rfl ?_
                refine d_callS 529 (k_L_draw l g N r10.2 a2 6) lk_L_draw q_736 (by decide) rfl (Nat.le_of_ble_eq_true rfl) dL_act_526 rfl (fun r95 _ => ?_)
                show GD _ _ _ _ _ [.int r95.1, .int 1] r95.2
                refine d_st (fun hX _ => g_iadd 530 (hX _) dL_act_529 rfl) rfl ?_
                refine d_klI (fun v96 hv96 => ?_)
                refine d_st (fun hX _ => g_istore 532 7 [(7, .int v96), (6, .ref r9), (5, .int v8), (4, .ref r4), (3, .int v3), (0, .ref a0), (1, .ref a1), (2, .ref a2)] (hX _) dL_act_530 rfl (Nat.le_of_ble_eq_true rfl) rfl) rfl ?_
                refine d_st (fun hX _ => g_iconst 533 (hX _) 0 dL_act_532 rfl kc_i_0) rfl ?_
                refine d_st (fun hX _ => g_istore 535 8 [(8, .int 0), (7, .int v96), (6, .ref r9), (5, .int v8), (4, .ref r4), (3, .int v3), (0, .ref a0), (1, .ref a1), (2, .ref a2)] (hX _) dL_act_533 rfl (Nat.le_of_ble_eq_true rfl) rfl) rfl ?_
                refine d_st (fun hX _ => g_iconst 536 (hX _) 0 dL_act_535 rfl kc_i_0) rfl ?_
                refine d_st (fun hX _ => g_istore 538 9 [(9, .int 0), (8, .int 0), (7, .int v96), (6, .ref r9), (5, .int v8), (4, .ref r4), (3, .int v3), (0, .ref a0), (1, .ref a1), (2, .ref a2)] (hX _) dL_act_536 rfl (Nat.le_of_ble_eq_true rfl) rfl) rfl ?_
                refine d_st (fun hX _ => g_lv [7, 8, 2, 1, 0] rfl) rfl ?_
                exact k_L_act_538 N N r95.2 a0 a1 v96 0 0
