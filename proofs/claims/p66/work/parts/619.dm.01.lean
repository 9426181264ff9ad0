set_option maxRecDepth 100000 in
set_option maxHeartbeats 4000000 in
theorem k_AC_init (l : Launch) (g : kG) (N : Nat) (M : kMem) (a0 : Nat) : kMetD l g yAC_init_da8c8 cAC_init_da8c8 1 none 2 [.ref a0] M (fun _ : Unit => (none, M)) (F_AC_init N M a0) := by
  refine k_ofD (lv := [(0, .ref a0)]) RAC (by decide) rfl rfl (Nat.le_of_ble_eq_true rfl) ?_
  unfold F_AC_init
  refine d_st (fun hX _ => g_aload_n 1 0 (hX _) dAC_init_da8c8_0 rfl rfl) rfl ?_
  refine d_objInit 4 q_681 (Nat.le_of_ble_eq_true rfl) (by decide) dAC_init_da8c8_1 rfl ?_
  exact d_vret rfl rfl dAC_init_da8c8_4
set_option maxRecDepth 100000 in
set_option maxHeartbeats 4000000 in
theorem k_AB_init (l : Launch) (g : kG) (N : Nat) (M : kMem) (a0 : Nat) : kMetD l g yAB_init_da8c8 cAB_init_da8c8 1 none 3 [.ref a0] M (fun r : kMem => (none, r)) (F_AB_init N M a0) := by
  refine k_ofD (lv := [(0, .ref a0)]) RAB (by decide) rfl rfl (Nat.le_of_ble_eq_true rfl) ?_
  unfold F_AB_init
  refine d_st (fun hX _ => g_aload_n 1 0 (hX _) dAB_init_da8c8_0 rfl rfl) rfl ?_
  refine d_callI 4 (k_AC_init l g N M a0) lk_AC_init_da8c8 q_678 rfl (by decide) rfl (Nat.le_of_ble_eq_true rfl) dAB_init_da8c8_1 rfl (fun r1 _ => ?_)
  show GD _ _ _ _ _ [] M
  refine d_st (fun hX _ => g_aload_n 5 0 (hX _) dAB_init_da8c8_4 rfl rfl) rfl ?_
  refine d_st (fun hX _ => g_iconst 6 (hX _) 0 dAB_init_da8c8_5 rfl kc_i_0) rfl ?_
  refine d_g (fun hX _ => ui_AB_7 9 (hX _) dAB_init_da8c8_6 rfl) rfl ?_
  refine d_klM (fun M2 hM2 => ?_)
  exact d_vret rfl rfl dAB_init_da8c8_9
set_option maxRecDepth 100000 in
set_option maxHeartbeats 4000000 in
theorem k_AL_init (l : Launch) (g : kG) (N : Nat) (M : kMem) (a0 : Nat) : kMetD l g yAL_init_da8c8 cAL_init_da8c8 1 none 4 [.ref a0] M (fun r : kMem => (none, r)) (F_AL_init N M a0) := by
  refine k_ofD (lv := [(0, .ref a0)]) RAL (by decide) rfl rfl (Nat.le_of_ble_eq_true rfl) ?_
  unfold F_AL_init
  refine d_st (fun hX _ => g_aload_n 1 0 (hX _) dAL_init_da8c8_0 rfl rfl) rfl ?_
  refine d_callI 4 (k_AB_init l g N M a0) lk_AB_init_da8c8 q_675 rfl (by decide) rfl (Nat.le_of_ble_eq_true rfl) dAL_init_da8c8_1 rfl (fun r1 _ => ?_)
  show GD _ _ _ _ _ [] r1
  refine d_st (fun hX _ => g_aload_n 5 0 (hX _) dAL_init_da8c8_4 rfl rfl) rfl ?_
  refine d_st (fun hX _ => g_gsEmpty 8 (hX _) q_682 dAL_init_da8c8_5 rfl) rfl ?_
  refine d_g (fun hX _ => ue0_AL_9 11 (hX _) dAL_init_da8c8_8 rfl) rfl ?_
  refine d_klM (fun M2 hM2 => ?_)
  exact d_vret rfl rfl dAL_init_da8c8_11
set_option maxRecDepth 100000 in
set_option maxHeartbeats 4000000 in
theorem k_AL_size (l : Launch) (g : kG) (N : Nat) (M : kMem) (a0 : Nat) : kMetD l g yAL_size_8abf5 cAL_size_8abf5 1 (some .int) 2 [.ref a0] M (fun r : Int32 => (some (.int r), M)) (F_AL_size N M a0) := by
  refine k_ofD (lv := [(0, .ref a0)]) RAL (by decide) rfl rfl (Nat.le_of_ble_eq_true rfl) ?_
  unfold F_AL_size
  refine d_st (fun hX _ => g_aload_n 1 0 (hX _) dAL_size_8abf5_0 rfl rfl) rfl ?_
  refine d_g (fun hX _ => e_AL_48 4 (hX _) dAL_size_8abf5_1 rfl) rfl ?_
  exact d_iret rfl rfl dAL_size_8abf5_4
set_option maxRecDepth 100000 in
set_option maxHeartbeats 4000000 in
theorem k_AL_ed (l : Launch) (g : kG) (N : Nat) (M : kMem) (a0 : Nat) (x1 : Int32) : kMetD l g yAL_elementData_915e3 cAL_elementData_915e3 2 (some (.object "java/lang/Object")) 2 [.ref a0, .int x1] M (fun r : Nat => (some (.ref r), M)) (F_AL_ed N M a0 x1) := by
  refine k_ofD (lv := [(0, .ref a0), (1, .int x1)]) RAL (by decide) rfl rfl (Nat.le_of_ble_eq_true rfl) ?_
  unfold F_AL_ed
  refine d_st (fun hX _ => g_aload_n 1 0 (hX _) dAL_elementData_915e3_0 rfl rfl) rfl ?_
  refine d_getE (fun hX _ => e_AL_9 4 (hX _) dAL_elementData_915e3_1 rfl) (fun _ => ?_) (fun _ => ?_)
  · exact d_none
  · refine d_st (fun hX _ => g_iload_n 5 1 (hX _) dAL_elementData_915e3_4 rfl rfl) rfl ?_
    refine d_g (fun hX _ => g_aald 21 7 6 (hX _) "java/lang/Object" (Nat.le_of_ble_eq_true rfl) rfl dAL_elementData_915e3_5 rfl) rfl ?_
    exact d_aret rfl (Or.inl ⟨_, rfl⟩) rfl dAL_elementData_915e3_6
set_option maxRecDepth 100000 in
set_option maxHeartbeats 4000000 in
theorem k_OJ_chk (l : Launch) (g : kG) (N : Nat) (M : kMem) (x0 : Int32) (x1 : Int32) : kMetD l g yOJ_checkIndex_7cf53 cOJ_checkIndex_7cf53 2 (some .int) 2 [.int x0, .int x1] M (fun r : Int32 => (some (.int r), M)) (F_OJ_chk N M x0 x1) := by
  refine k_ofD (lv := [(0, .int x0), (1, .int x1)]) ROJ (by decide) rfl rfl (Nat.le_of_ble_eq_true rfl) ?_
  unfold F_OJ_chk
  refine d_st (fun hX _ => g_iload_n 1 0 (hX _) dOJ_checkIndex_7cf53_0 rfl rfl) rfl ?_
  refine d_st (fun hX _ => g_iload_n 2 1 (hX _) dOJ_checkIndex_7cf53_1 rfl rfl) rfl ?_
  refine d_st (fun hX _ => g_null 3 (hX _) dOJ_checkIndex_7cf53_2 rfl) rfl ?_
  refine d_callSX 6 (As := [.int x0, .int x1, .ref 0]) (k_J3_check l g M x0 x1 (.ref 0) rfl) (fun _ => rfl) lk_J3_check q_1102 (by decide) rfl (Nat.le_of_ble_eq_true rfl) dOJ_checkIndex_7cf53_3 rfl (fun r1 _ => ?_)
  show GD _ _ _ _ _ (.int r1 :: []) M
  exact d_iret rfl rfl dOJ_checkIndex_7cf53_6
set_option maxRecDepth 100000 in
set_option maxHeartbeats 4000000 in
theorem k_AL_get (l : Launch) (g : kG) (N : Nat) (M : kMem) (a0 : Nat) (x1 : Int32) : kMetD l g yAL_get_915e3 cAL_get_915e3 2 (some (.object "java/lang/Object")) 3 [.ref a0, .int x1] M (fun r : Nat => (some (.ref r), M)) (F_AL_get N M a0 x1) := by
  refine k_ofD (lv := [(0, .ref a0), (1, .int x1)]) RAL (by decide) rfl rfl (Nat.le_of_ble_eq_true rfl) ?_
  unfold F_AL_get
  refine d_st (fun hX _ => g_iload_n 1 1 (hX _) dAL_get_915e3_0 rfl rfl) rfl ?_
  refine d_st (fun hX _ => g_aload_n 2 0 (hX _) dAL_get_915e3_1 rfl rfl) rfl ?_
  refine d_g (fun hX _ => e_AL_48 5 (hX _) dAL_get_915e3_2 rfl) rfl ?_
  refine d_callS 8 (k_OJ_chk l g N M x1 (kI M a0 2)) lk_OJ_checkIndex_7cf53 q_1099 (by decide) rfl (Nat.le_of_ble_eq_true rfl) dAL_get_915e3_5 rfl (fun r1 _ => ?_)
  show GD _ _ _ _ _ [.int r1] M
  refine d_st (fun hX _ => g_pop 9 (hX _) dAL_get_915e3_8 rfl rfl) rfl ?_
  refine d_st (fun hX _ => g_aload_n 10 0 (hX _) dAL_get_915e3_9 rfl rfl) rfl ?_
  refine d_st (fun hX _ => g_iload_n 11 1 (hX _) dAL_get_915e3_10 rfl rfl) rfl ?_
  refine d_callV 14 (k_AL_ed l g N M a0 x1) lk_AL_elementData_915e3 (ci := 33) (T := TAL) (N := 3) rfl (Nat.le_of_ble_eq_true rfl) q_1103 (fun s args ht => ht _ q_1105) (by decide) rfl (Nat.le_of_ble_eq_true rfl) dAL_get_915e3_11 rfl (fun r2 _ => ?_)
  show GD _ _ _ _ _ [.ref r2] M
  exact d_aret rfl (Or.inl ⟨_, rfl⟩) rfl dAL_get_915e3_14
set_option maxRecDepth 100000 in
set_option maxHeartbeats 4000000 in
theorem k_IN_valueOf (l : Launch) (g : kG) (N : Nat) (M : kMem) (x0 : Int32) : kMetD l g yIN_valueOf_2dffe cIN_valueOf_2dffe 1 (some (.object "java/lang/Integer")) 2 [.int x0] M (fun r : Int32 × kMem => (some (.retAddr (g.1 (2000 + kBi r.1))), r.2)) (F_IN_valueOf N M x0) := by
  refine k_ofD (lv := [(0, .int x0)]) RIN (by decide) rfl rfl (Nat.le_of_ble_eq_true rfl) ?_
  unfold F_IN_valueOf
  refine d_st (fun hX _ => g_iload_n 1 0 (hX _) dIN_valueOf_2dffe_0 rfl rfl) rfl ?_
  refine d_st (fun hX _ => g_bipush 3 (hX _) (-128) dIN_valueOf_2dffe_1 rfl kc_b_m128) rfl ?_
  refine d_if (fun hX _ => g_icmp_lt 23 6 (hX _) dIN_valueOf_2dffe_3 (by decide) rfl) (fun _ => ?_) (fun _ => ?_)
  · exact d_none
  · refine d_st (fun hX _ => g_iload_n 7 0 (hX _) dIN_valueOf_2dffe_6 rfl rfl) rfl ?_
    refine d_st (fun hX _ => g_gsHigh 10 (hX _) q_1113 dIN_valueOf_2dffe_7 rfl) rfl ?_
    refine d_if (fun hX _ => g_icmp_gt 23 13 (hX _) dIN_valueOf_2dffe_10 (by decide) rfl) (fun _ => ?_) (fun _ => ?_)
    · exact d_none
    · refine d_st (fun hX _ => g_gsCache 16 (hX _) q_1115 dIN_valueOf_2dffe_13 rfl) rfl ?_
      refine d_st (fun hX _ => g_iload_n 17 0 (hX _) dIN_valueOf_2dffe_16 rfl rfl) rfl ?_
      refine d_st (fun hX _ => g_sipush 20 (hX _) 128 dIN_valueOf_2dffe_17 rfl kc_s_128) rfl ?_
      refine d_st (fun hX _ => g_iadd 21 (hX _) dIN_valueOf_2dffe_20 rfl) rfl ?_
      refine d_g (fun hX _ => g_cacheAt 22 (hX _) dIN_valueOf_2dffe_21 rfl) rfl ?_
      exact d_bret rfl (Or.inl ⟨_, rfl⟩) rfl dIN_valueOf_2dffe_22
set_option maxRecDepth 100000 in
set_option maxHeartbeats 4000000 in
theorem k_IN_compare (l : Launch) (g : kG) (N : Nat) (M : kMem) (x0 : Int32) (x1 : Int32) : kMetD l g yIN_compare_7cf53 cIN_compare_7cf53 2 (some .int) 2 [.int x0, .int x1] M (fun r : Int32 => (some (.int r), M)) (F_IN_compare N M x0 x1) := by
  refine k_ofD (lv := [(0, .int x0), (1, .int x1)]) RIN (by decide) rfl rfl (Nat.le_of_ble_eq_true rfl) ?_
  unfold F_IN_compare
  refine d_st (fun hX _ => g_iload_n 1 0 (hX _) dIN_compare_7cf53_0 rfl rfl) rfl ?_
  refine d_st (fun hX _ => g_iload_n 2 1 (hX _) dIN_compare_7cf53_1 rfl rfl) rfl ?_
  refine d_ifN (fun hX _ => g_icmp_ge 9 5 (hX _) dIN_compare_7cf53_2 (by decide) rfl) (fun _ => ?_) (fun _ => ?_)
  · refine d_st (fun hX _ => g_iload_n 10 0 (hX _) dIN_compare_7cf53_9 rfl rfl) rfl ?_
    refine d_st (fun hX _ => g_iload_n 11 1 (hX _) dIN_compare_7cf53_10 rfl rfl) rfl ?_
    refine d_ifN (fun hX _ => g_icmp_ne 18 14 (hX _) dIN_compare_7cf53_11 (by decide) rfl) (fun _ => ?_) (fun _ => ?_)
    · refine d_st (fun hX _ => g_iconst 19 (hX _) 1 dIN_compare_7cf53_18 rfl kc_i_1) rfl ?_
      exact d_iret rfl rfl dIN_compare_7cf53_19
    · refine d_st (fun hX _ => g_iconst 15 (hX _) 0 dIN_compare_7cf53_14 rfl kc_i_0) rfl ?_
      refine d_st (fun hX _ => g_goto 19 (hX _) dIN_compare_7cf53_15 (by decide)) rfl ?_
      exact d_iret rfl rfl dIN_compare_7cf53_19
  · refine d_st (fun hX _ => g_iconst 6 (hX _) (-1) dIN_compare_7cf53_5 rfl kc_i_m1) rfl ?_
    refine d_st (fun hX _ => g_goto 19 (hX _) dIN_compare_7cf53_6 (by decide)) rfl ?_
    exact d_iret rfl rfl dIN_compare_7cf53_19
set_option maxRecDepth 100000 in
set_option maxHeartbeats 4000000 in
theorem k_IN_cmpT (l : Launch) (g : kG) (N : Nat) (M : kMem) (x0 : Int32) (x1 : Int32) : kMetD l g yIN_compareTo_e8194 cIN_compareTo_e8194 2 (some .int) 3 [.retAddr (g.1 (2000 + kBi x0)), .retAddr (g.1 (2000 + kBi x1))] M (fun r : Int32 => (some (.int r), M)) (F_IN_cmpT N M x0 x1) := by
  refine k_ofD (lv := [(0, .retAddr (g.1 (2000 + kBi x0))), (1, .retAddr (g.1 (2000 + kBi x1)))]) RIN (by decide) rfl rfl (Nat.le_of_ble_eq_true rfl) ?_
  unfold F_IN_cmpT
  refine d_st (fun hX _ => g_aloadS_n 1 0 (hX _) dIN_compareTo_e8194_0 rfl rfl) rfl ?_
  refine d_g (fun hX _ => g_box 4 (hX _) q_1126 dIN_compareTo_e8194_1 rfl) rfl ?_
  refine d_st (fun hX _ => g_aloadS_n 5 1 (hX _) dIN_compareTo_e8194_4 rfl rfl) rfl ?_
  refine d_g (fun hX _ => g_box 8 (hX _) q_1126 dIN_compareTo_e8194_5 rfl) rfl ?_
  refine d_callS 11 (k_IN_compare l g N M x0 x1) lk_IN_compare_7cf53 q_1164 (by decide) rfl (Nat.le_of_ble_eq_true rfl) dIN_compareTo_e8194_8 rfl (fun r1 _ => ?_)
  show GD _ _ _ _ _ [.int r1] M
  exact d_iret rfl rfl dIN_compareTo_e8194_11
set_option maxRecDepth 100000 in
set_option maxHeartbeats 4000000 in
theorem k_IN_cmpTo (l : Launch) (g : kG) (N : Nat) (M : kMem) (x0 : Int32) (x1 : Int32) : kMetD l g yIN_compareTo_e47da cIN_compareTo_e47da 2 (some .int) 4 [.retAddr (g.1 (2000 + kBi x0)), .retAddr (g.1 (2000 + kBi x1))] M (fun r : Int32 => (some (.int r), M)) (F_IN_cmpTo N M x0 x1) := by
  refine k_ofD (lv := [(0, .retAddr (g.1 (2000 + kBi x0))), (1, .retAddr (g.1 (2000 + kBi x1)))]) RIN (by decide) rfl rfl (Nat.le_of_ble_eq_true rfl) ?_
  unfold F_IN_cmpTo
  refine d_st (fun hX _ => g_aloadS_n 1 0 (hX _) dIN_compareTo_e47da_0 rfl rfl) rfl ?_
  refine d_st (fun hX _ => g_aloadS_n 2 1 (hX _) dIN_compareTo_e47da_1 rfl rfl) rfl ?_
  refine d_g (fun hX _ => g_castI 5 (hX _) q_1117 dIN_compareTo_e47da_2 rfl) rfl ?_
  refine d_callVB 8 (k_IN_cmpT l g N M x0 x1) lk_IN_compareTo_e8194  q_1160 (fun s args ht => ht _ q_1162) (by decide) rfl (Nat.le_of_ble_eq_true rfl) dIN_compareTo_e47da_5 rfl (fun r1 _ => ?_)
  show GD _ _ _ _ _ [.int r1] M
  exact d_iret rfl rfl dIN_compareTo_e47da_8
set_option maxRecDepth 100000 in
set_option maxHeartbeats 4000000 in
theorem k_OJ_rnn (l : Launch) (g : kG) (N : Nat) (M : kMem) (x0 : Int32) : kMetD l g yOJ_requireNonNull_262c5 cOJ_requireNonNull_262c5 1 (some (.object "java/lang/Object")) 2 [.retAddr (g.1 (2000 + kBi x0))] M (fun r : Int32 => (some (.retAddr (g.1 (2000 + kBi r))), M)) (F_OJ_rnn N M x0) := by
  refine k_ofD (lv := [(0, .retAddr (g.1 (2000 + kBi x0)))]) ROJ (by decide) rfl rfl (Nat.le_of_ble_eq_true rfl) ?_
  unfold F_OJ_rnn
  refine d_st (fun hX _ => g_aloadS_n 1 0 (hX _) dOJ_requireNonNull_262c5_0 rfl rfl) rfl ?_
  refine d_st (fun hX _ => g_nnC 12 (hX _) dOJ_requireNonNull_262c5_1 (by decide)) rfl ?_
  refine d_st (fun hX _ => g_aloadS_n 13 0 (hX _) dOJ_requireNonNull_262c5_12 rfl rfl) rfl ?_
  exact d_bret rfl (Or.inl ⟨_, rfl⟩) rfl dOJ_requireNonNull_262c5_13
set_option maxRecDepth 100000 in
set_option maxHeartbeats 4000000 in
theorem k_TE_init (l : Launch) (g : kG) (N : Nat) (M : kMem) (a0 : Nat) (x1 : Int32) (a2 : Nat) (a3 : Nat) : kMetD l g yTE_init cTE_init 4 none 2 [.ref a0, .retAddr (g.1 (2000 + kBi x1)), .ref a2, .ref a3] M (fun r : kMem => (none, r)) (F_TE_init N M a0 x1 a2 a3) := by
  refine k_ofD (lv := [(0, .ref a0), (1, .retAddr (g.1 (2000 + kBi x1))), (2, .ref a2), (3, .ref a3)]) RTE (by decide) rfl rfl (Nat.le_of_ble_eq_true rfl) ?_
  unfold F_TE_init
  refine d_st (fun hX _ => g_aload_n 1 0 (hX _) dTE_init_0 rfl rfl) rfl ?_
  refine d_objInit 4 q_1372 (Nat.le_of_ble_eq_true rfl) (by decide) dTE_init_1 rfl ?_
  refine d_st (fun hX _ => g_aload_n 5 0 (hX _) dTE_init_4 rfl rfl) rfl ?_
  refine d_st (fun hX _ => g_iconst 6 (hX _) 1 dTE_init_5 rfl kc_i_1) rfl ?_
  refine d_g (fun hX _ => uz_TE_9 9 (hX _) dTE_init_6 rfl) rfl ?_
  refine d_klM (fun M1 hM1 => ?_)
  refine d_st (fun hX _ => g_aload_n 10 0 (hX _) dTE_init_9 rfl rfl) rfl ?_
  refine d_st (fun hX _ => g_aloadS_n 11 1 (hX _) dTE_init_10 rfl rfl) rfl ?_
  refine d_g (fun hX _ => uk_TE_15 14 (hX _) dTE_init_11 rfl) rfl ?_
  refine d_klM (fun M2 hM2 => ?_)
  refine d_st (fun hX _ => g_aload_n 15 0 (hX _) dTE_init_14 rfl rfl) rfl ?_
  refine d_st (fun hX _ => g_aload_n 16 2 (hX _) dTE_init_15 rfl rfl) rfl ?_
  refine d_g (fun hX _ => ur_TE_19 19 (hX _) dTE_init_16 rfl) rfl ?_
  refine d_klM (fun M3 hM3 => ?_)
  refine d_st (fun hX _ => g_aload_n 20 0 (hX _) dTE_init_19 rfl rfl) rfl ?_
  refine d_st (fun hX _ => g_aload_n 21 3 (hX _) dTE_init_20 rfl rfl) rfl ?_
  refine d_g (fun hX _ => ur_TE_22 24 (hX _) dTE_init_21 rfl) rfl ?_
  refine d_klM (fun M4 hM4 => ?_)
  exact d_vret rfl rfl dTE_init_24
set_option maxRecDepth 100000 in
set_option maxHeartbeats 4000000 in
theorem k_TE_getKey (l : Launch) (g : kG) (N : Nat) (M : kMem) (a0 : Nat) : kMetD l g yTE_getKey cTE_getKey 1 (some (.object "java/lang/Object")) 2 [.ref a0] M (fun r : Int32 => (some (.retAddr (g.1 (2000 + kBi r))), M)) (F_TE_getKey N M a0) := by
  refine k_ofD (lv := [(0, .ref a0)]) RTE (by decide) rfl rfl (Nat.le_of_ble_eq_true rfl) ?_
  unfold F_TE_getKey
  refine d_st (fun hX _ => g_aload_n 1 0 (hX _) dTE_getKey_0 rfl rfl) rfl ?_
  refine d_g (fun hX _ => e_TE_15 4 (hX _) dTE_getKey_1 rfl) rfl ?_
  exact d_bret rfl (Or.inl ⟨_, rfl⟩) rfl dTE_getKey_4
set_option maxRecDepth 100000 in
set_option maxHeartbeats 4000000 in
theorem k_TE_getValue (l : Launch) (g : kG) (N : Nat) (M : kMem) (a0 : Nat) : kMetD l g yTE_getValue cTE_getValue 1 (some (.object "java/lang/Object")) 2 [.ref a0] M (fun r : Nat => (some (.ref r), M)) (F_TE_getValue N M a0) := by
  refine k_ofD (lv := [(0, .ref a0)]) RTE (by decide) rfl rfl (Nat.le_of_ble_eq_true rfl) ?_
  unfold F_TE_getValue
  refine d_st (fun hX _ => g_aload_n 1 0 (hX _) dTE_getValue_0 rfl rfl) rfl ?_
  refine d_g (fun hX _ => e_TE_19 4 (hX _) dTE_getValue_1 rfl) rfl ?_
  exact d_aret rfl (Or.inl ⟨_, rfl⟩) rfl dTE_getValue_4
set_option maxRecDepth 100000 in
set_option maxHeartbeats 4000000 in
theorem k_SE_init (l : Launch) (g : kG) (N : Nat) (M : kMem) (a0 : Nat) (a1 : Nat) : kMetD l g ySE_init cSE_init 2 none 3 [.ref a0, .ref a1] M (fun r : kMem => (none, r)) (F_SE_init N M a0 a1) := by
  refine k_ofD (lv := [(0, .ref a0), (1, .ref a1)]) RSE (by decide) rfl rfl (Nat.le_of_ble_eq_true rfl) ?_
  unfold F_SE_init
  refine d_st (fun hX _ => g_aload_n 1 0 (hX _) dSE_init_0 rfl rfl) rfl ?_
  refine d_objInit 4 q_2075 (Nat.le_of_ble_eq_true rfl) (by decide) dSE_init_1 rfl ?_
  refine d_st (fun hX _ => g_aload_n 5 0 (hX _) dSE_init_4 rfl rfl) rfl ?_
  refine d_st (fun hX _ => g_aload_n 6 1 (hX _) dSE_init_5 rfl rfl) rfl ?_
  refine d_callF 11 (k_TE_getKey l g N M a1) lk_TE_getKey (ci := 35) (T := TTE) (N := 6) rfl (Nat.le_of_ble_eq_true rfl) q_2077 q_2087 (by decide +kernel) (by decide +kernel) (by decide) rfl (Nat.le_of_ble_eq_true rfl) dSE_init_6 rfl (fun r1 _ => ?_)
  show GD _ _ _ _ _ [.retAddr (g.1 (2000 + kBi r1)), .ref a0] M
  refine d_stN (fun hX hn _ _ => uk_SE_7 14 (hX _) hn dSE_init_11 rfl) rfl ?_
  refine d_klM (fun M2 hM2 => ?_)
  refine d_st (fun hX _ => g_aload_n 15 0 (hX _) dSE_init_14 rfl rfl) rfl ?_
  refine d_st (fun hX _ => g_aload_n 16 1 (hX _) dSE_init_15 rfl rfl) rfl ?_
  refine d_callF 21 (k_TE_getValue l g N M2 a1) lk_TE_getValue (ci := 35) (T := TTE) (N := 6) rfl (Nat.le_of_ble_eq_true rfl) q_2093 q_2101 (by decide +kernel) (by decide +kernel) (by decide) rfl (Nat.le_of_ble_eq_true rfl) dSE_init_16 rfl (fun r3 _ => ?_)
  show GD _ _ _ _ _ [.ref r3, .ref a0] M2
  refine d_stN (fun hX hn _ _ => ur_SE_13 24 (hX _) hn dSE_init_21 rfl) rfl ?_
  refine d_klM (fun M4 hM4 => ?_)
  exact d_vret rfl rfl dSE_init_24
set_option maxRecDepth 100000 in
set_option maxHeartbeats 4000000 in
theorem k_SE_getValue (l : Launch) (g : kG) (N : Nat) (M : kMem) (a0 : Nat) : kMetD l g ySE_getValue cSE_getValue 1 (some (.object "java/lang/Object")) 2 [.ref a0] M (fun r : Nat => (some (.ref r), M)) (F_SE_getValue N M a0) := by
  refine k_ofD (lv := [(0, .ref a0)]) RSE (by decide) rfl rfl (Nat.le_of_ble_eq_true rfl) ?_
  unfold F_SE_getValue
  refine d_st (fun hX _ => g_aload_n 1 0 (hX _) dSE_getValue_0 rfl rfl) rfl ?_
  refine d_g (fun hX _ => e_SE_13 4 (hX _) dSE_getValue_1 rfl) rfl ?_
  exact d_aret rfl (Or.inl ⟨_, rfl⟩) rfl dSE_getValue_4
set_option maxRecDepth 100000 in
set_option maxHeartbeats 4000000 in
theorem k_AM_init (l : Launch) (g : kG) (N : Nat) (M : kMem) (a0 : Nat) : kMetD l g yAM_init cAM_init 1 none 2 [.ref a0] M (fun _ : Unit => (none, M)) (F_AM_init N M a0) := by
  refine k_ofD (lv := [(0, .ref a0)]) RAM (by decide) rfl rfl (Nat.le_of_ble_eq_true rfl) ?_
  unfold F_AM_init
  refine d_st (fun hX _ => g_aload_n 1 0 (hX _) dAM_init_0 rfl rfl) rfl ?_
  refine d_objInit 4 q_937 (Nat.le_of_ble_eq_true rfl) (by decide) dAM_init_1 rfl ?_
  exact d_vret rfl rfl dAM_init_4
set_option maxRecDepth 100000 in
set_option maxHeartbeats 4000000 in
theorem k_TM_init (l : Launch) (g : kG) (N : Nat) (M : kMem) (a0 : Nat) : kMetD l g yTM_init cTM_init 1 none 3 [.ref a0] M (fun r : kMem => (none, r)) (F_TM_init N M a0) := by
  refine k_ofD (lv := [(0, .ref a0)]) RTM (by decide) rfl rfl (Nat.le_of_ble_eq_true rfl) ?_
  unfold F_TM_init
  refine d_st (fun hX _ => g_aload_n 1 0 (hX _) dTM_init_0 rfl rfl) rfl ?_
  refine d_callI 4 (k_AM_init l g N M a0) lk_AM_init q_934 rfl (by decide) rfl (Nat.le_of_ble_eq_true rfl) dTM_init_1 rfl (fun r1 _ => ?_)
  show GD _ _ _ _ _ [] M
  refine d_st (fun hX _ => g_aload_n 5 0 (hX _) dTM_init_4 rfl rfl) rfl ?_
  refine d_st (fun hX _ => g_iconst 6 (hX _) 0 dTM_init_5 rfl kc_i_0) rfl ?_
  refine d_g (fun hX _ => ui_TM_7 9 (hX _) dTM_init_6 rfl) rfl ?_
  refine d_klM (fun M2 hM2 => ?_)
  refine d_st (fun hX _ => g_aload_n 10 0 (hX _) dTM_init_9 rfl rfl) rfl ?_
  refine d_st (fun hX _ => g_iconst 11 (hX _) 0 dTM_init_10 rfl kc_i_0) rfl ?_
  refine d_g (fun hX _ => ui_TM_13 14 (hX _) dTM_init_11 rfl) rfl ?_
  refine d_klM (fun M3 hM3 => ?_)
  refine d_st (fun hX _ => g_aload_n 15 0 (hX _) dTM_init_14 rfl rfl) rfl ?_
  refine d_st (fun hX _ => g_null 16 (hX _) dTM_init_15 rfl) rfl ?_
  refine d_stN (fun hX hn _ _ => ur_TM_16 19 (hX _) hn dTM_init_16 rfl) rfl ?_
  refine d_klM (fun M4 hM4 => ?_)
  exact d_vret rfl rfl dTM_init_19
set_option maxRecDepth 100000 in
set_option maxHeartbeats 4000000 in
theorem k_TM_compare (l : Launch) (g : kG) (N : Nat) (M : kMem) (a0 : Nat) (x1 : Int32) (x2 : Int32) : kMetD l g yTM_compare cTM_compare 3 (some .int) 5 [.ref a0, .retAddr (g.1 (2000 + kBi x1)), .retAddr (g.1 (2000 + kBi x2))] M (fun r : Int32 => (some (.int r), M)) (F_TM_compare N M a0 x1 x2) := by
  refine k_ofD (lv := [(0, .ref a0), (1, .retAddr (g.1 (2000 + kBi x1))), (2, .retAddr (g.1 (2000 + kBi x2)))]) RTM (by decide) rfl rfl (Nat.le_of_ble_eq_true rfl) ?_
  unfold F_TM_compare
  refine d_st (fun hX _ => g_aload_n 1 0 (hX _) dTM_compare_0 rfl rfl) rfl ?_
  refine d_g (fun hX _ => e_TM_16 4 (hX _) dTM_compare_1 rfl) rfl ?_
  refine d_ifN (fun hX _ => g_ifnonnull 20 7 (hX _) dTM_compare_4 (by decide) rfl) (fun _ => ?_) (fun _ => ?_)
  · exact d_none
  · refine d_st (fun hX _ => g_aloadS_n 8 1 (hX _) dTM_compare_7 rfl rfl) rfl ?_
    refine d_g (fun hX _ => g_castIC 11 (hX _) q_1149 dTM_compare_8 rfl) rfl ?_
    refine d_st (fun hX _ => g_aloadS_n 12 2 (hX _) dTM_compare_11 rfl rfl) rfl ?_
    refine d_callFB 17 (k_IN_cmpTo l g N M x1 x2) lk_IN_compareTo_e47da  q_1151 q_1155 (by decide +kernel) (by decide +kernel) (by decide) rfl (Nat.le_of_ble_eq_true rfl) dTM_compare_12 rfl (fun r1 _ => ?_)
    show GD _ _ _ _ _ [.int r1] M
    refine d_st (fun hX _ => g_goto 31 (hX _) dTM_compare_17 (by decide)) rfl ?_
    exact d_iret rfl rfl dTM_compare_31
set_option maxRecDepth 100000 in
set_option maxHeartbeats 4000000 in
theorem k_TM_getEntry_28 {l : Launch} {g : kG} {L0 : Nat} (N : Nat) (M : kMem) : ∀ (n : Nat) (x2 : Int32) (a3 : Nat), GD (l, cTM_getEntry, 5, RTM, g, 5, L0, (some (.object "java/util/TreeMap$Entry")), yTM_getEntry.name) (fun r : Nat => (some (.ref r), M)) (F_TM_getEntry_28 N M n x2 a3) 28 [(2, .retAddr (g.1 (2000 + kBi x2))), (3, .ref a3)] [] M := by
  intro n
  induction n with
  | zero => intro _ _; exact d_none
  | succ n ih =>
    intro x2 a3
    unfold F_TM_getEntry_28
    refine d_st (fun hX _ => g_aload_n 29 1 (hX _) dTM_getEntry_28 rfl rfl) rfl ?_
    refine d_if (fun hX _ => g_ifnull 75 32 (hX _) dTM_getEntry_29 (by decide) rfl) (fun _ => ?_) (fun _ => ?_)
    · refine d_st (fun hX _ => g_null 76 (hX _) dTM_getEntry_75 rfl) rfl ?_
      exact d_aret rfl (Or.inl ⟨_, rfl⟩) rfl dTM_getEntry_76
    · refine d_st (fun hX _ => g_aloadS_n 33 0 (hX _) dTM_getEntry_32 rfl rfl) rfl ?_
      refine d_st (fun hX _ => g_aload_n 34 1 (hX _) dTM_getEntry_33 rfl rfl) rfl ?_
      refine d_g (fun hX _ => e_TM_105 37 (hX _) dTM_getEntry_34 rfl) rfl ?_
      refine d_callFB 42 (k_IN_cmpTo l g N M x2 (kI M a3 0)) lk_IN_compareTo_e47da  q_1151 q_1155 (by decide +kernel) (by decide +kernel) (by decide) rfl (Nat.le_of_ble_eq_true rfl) dTM_getEntry_37 rfl (fun r3 _ => ?_)
      show GD _ _ _ _ _ [.int r3] M
      refine d_st (fun hX _ => g_istore 44 4 [(4, .int r3), (2, .retAddr (g.1 (2000 + kBi x2))), (3, .ref a3)] (hX _) dTM_getEntry_42 rfl (Nat.le_of_ble_eq_true rfl) rfl) rfl ?_
      refine d_st (fun hX _ => g_iload 46 0 (hX _) dTM_getEntry_44 rfl rfl) rfl ?_
      refine d_ifN (fun hX _ => g_if_ge 57 49 (hX _) dTM_getEntry_46 (by decide) rfl) (fun _ => ?_) (fun _ => ?_)
      · refine d_st (fun hX _ => g_iload 59 0 (hX _) dTM_getEntry_57 rfl rfl) rfl ?_
        refine d_ifN (fun hX _ => g_if_le 70 62 (hX _) dTM_getEntry_59 (by decide) rfl) (fun _ => ?_) (fun _ => ?_)
        · refine d_st (fun hX _ => g_aload_n 71 2 (hX _) dTM_getEntry_70 rfl rfl) rfl ?_
          exact d_aret rfl (Or.inl ⟨_, rfl⟩) rfl dTM_getEntry_71
        · refine d_st (fun hX _ => g_aload_n 63 2 (hX _) dTM_getEntry_62 rfl rfl) rfl ?_
          refine d_g (fun hX _ => e_TM_114 66 (hX _) dTM_getEntry_63 rfl) rfl ?_
          refine d_klR (fun w4 hw4 => ?_)
          refine d_st (fun hX _ => g_astore_n 67 3 [(3, .ref w4), (4, .int r3), (2, .retAddr (g.1 (2000 + kBi x2)))] (hX _) dTM_getEntry_66 rfl rfl (Nat.le_of_ble_eq_true rfl) rfl) rfl ?_
          refine d_st (fun hX _ => g_goto 72 (hX _) dTM_getEntry_67 (by decide)) rfl ?_
          refine d_st (fun hX _ => g_goto 28 (hX _) dTM_getEntry_72 (by decide)) rfl ?_
          refine d_st (fun hX _ => g_lv [2, 0] rfl) rfl ?_
          exact ih x2 w4
      · refine d_st (fun hX _ => g_aload_n 50 2 (hX _) dTM_getEntry_49 rfl rfl) rfl ?_
        refine d_g (fun hX _ => e_TM_111 53 (hX _) dTM_getEntry_50 rfl) rfl ?_
        refine d_klR (fun w5 hw5 => ?_)
        refine d_st (fun hX _ => g_astore_n 54 3 [(3, .ref w5), (4, .int r3), (2, .retAddr (g.1 (2000 + kBi x2)))] (hX _) dTM_getEntry_53 rfl rfl (Nat.le_of_ble_eq_true rfl) rfl) rfl ?_
        refine d_st (fun hX _ => g_goto 72 (hX _) dTM_getEntry_54 (by decide)) rfl ?_
        refine d_st (fun hX _ => g_goto 28 (hX _) dTM_getEntry_72 (by decide)) rfl ?_
        refine d_st (fun hX _ => g_lv [2, 0] rfl) rfl ?_
        exact ih x2 w5
set_option maxRecDepth 100000 in
set_option maxHeartbeats 4000000 in
theorem k_TM_getEntry (l : Launch) (g : kG) (N : Nat) (M : kMem) (a0 : Nat) (x1 : Int32) : kMetD l g yTM_getEntry cTM_getEntry 5 (some (.object "java/util/TreeMap$Entry")) 5 [.ref a0, .retAddr (g.1 (2000 + kBi x1))] M (fun r : Nat => (some (.ref r), M)) (F_TM_getEntry N M a0 x1) := by
  refine k_ofD (lv := [(0, .ref a0), (1, .retAddr (g.1 (2000 + kBi x1)))]) RTM (by decide) rfl rfl (Nat.le_of_ble_eq_true rfl) ?_
  unfold F_TM_getEntry
  refine d_st (fun hX _ => g_aload_n 1 0 (hX _) dTM_getEntry_0 rfl rfl) rfl ?_
  refine d_g (fun hX _ => e_TM_16 4 (hX _) dTM_getEntry_1 rfl) rfl ?_
  refine d_if (fun hX _ => g_ifnull 13 7 (hX _) dTM_getEntry_4 (by decide) rfl) (fun _ => ?_) (fun _ => ?_)
  · refine d_st (fun hX _ => g_aloadS_n 14 1 (hX _) dTM_getEntry_13 rfl rfl) rfl ?_
    refine d_callS 17 (k_OJ_rnn l g N M x1) lk_OJ_requireNonNull_262c5 q_1146 (by decide) rfl (Nat.le_of_ble_eq_true rfl) dTM_getEntry_14 rfl (fun r1 _ => ?_)
    show GD _ _ _ _ _ [.retAddr (g.1 (2000 + kBi r1))] M
    refine d_st (fun hX _ => g_pop 18 (hX _) dTM_getEntry_17 rfl rfl) rfl ?_
    refine d_st (fun hX _ => g_aloadS_n 19 1 (hX _) dTM_getEntry_18 rfl rfl) rfl ?_
    refine d_g (fun hX _ => g_castIC 22 (hX _) q_1149 dTM_getEntry_19 rfl) rfl ?_
    refine d_st (fun hX _ => g_astoreS_n 23 2 [(2, .retAddr (g.1 (2000 + kBi x1))), (0, .ref a0), (1, .retAddr (g.1 (2000 + kBi x1)))] (hX _) dTM_getEntry_22 rfl rfl (Nat.le_of_ble_eq_true rfl) rfl) rfl ?_
    refine d_st (fun hX _ => g_aload_n 24 1 (hX _) dTM_getEntry_23 rfl rfl) rfl ?_
    refine d_g (fun hX _ => e_TM_101 27 (hX _) dTM_getEntry_24 rfl) rfl ?_
    refine d_klR (fun w2 hw2 => ?_)
    refine d_st (fun hX _ => g_astore_n 28 3 [(3, .ref w2), (2, .retAddr (g.1 (2000 + kBi x1))), (0, .ref a0), (1, .retAddr (g.1 (2000 + kBi x1)))] (hX _) dTM_getEntry_27 rfl rfl (Nat.le_of_ble_eq_true rfl) rfl) rfl ?_
    refine d_st (fun hX _ => g_lv [1, 0] rfl) rfl ?_
    exact k_TM_getEntry_28 N M N x1 w2
  · exact d_none
set_option maxRecDepth 100000 in
set_option maxHeartbeats 4000000 in
theorem k_TM_containsKey (l : Launch) (g : kG) (N : Nat) (M : kMem) (a0 : Nat) (x1 : Int32) : kMetD l g yTM_containsKey cTM_containsKey 2 (some .boolean) 6 [.ref a0, .retAddr (g.1 (2000 + kBi x1))] M (fun r : Int32 => (some (.int r), M)) (F_TM_containsKey N M a0 x1) := by
  refine k_ofD (lv := [(0, .ref a0), (1, .retAddr (g.1 (2000 + kBi x1)))]) RTM (by decide) rfl rfl (Nat.le_of_ble_eq_true rfl) ?_
  unfold F_TM_containsKey
  refine d_st (fun hX _ => g_aload_n 1 0 (hX _) dTM_containsKey_0 rfl rfl) rfl ?_
  refine d_st (fun hX _ => g_aloadS_n 2 1 (hX _) dTM_containsKey_1 rfl rfl) rfl ?_
  refine d_callV 5 (k_TM_getEntry l g N M a0 x1) lk_TM_getEntry (ci := 34) (T := TTM) (N := 9) rfl (Nat.le_of_ble_eq_true rfl) q_1134 (fun s args ht => ht _ q_1136) (by decide) rfl (Nat.le_of_ble_eq_true rfl) dTM_containsKey_2 rfl (fun r1 _ => ?_)
  show GD _ _ _ _ _ [.ref r1] M
  refine d_if (fun hX _ => g_ifnull 12 8 (hX _) dTM_containsKey_5 (by decide) rfl) (fun _ => ?_) (fun _ => ?_)
  · refine d_st (fun hX _ => g_iconst 13 (hX _) 0 dTM_containsKey_12 rfl kc_i_0) rfl ?_
    exact d_zretL rfl rfl rfl dTM_containsKey_13
  · refine d_st (fun hX _ => g_iconst 9 (hX _) 1 dTM_containsKey_8 rfl kc_i_1) rfl ?_
    refine d_st (fun hX _ => g_goto 13 (hX _) dTM_containsKey_9 (by decide)) rfl ?_
    exact d_zretL rfl rfl rfl dTM_containsKey_13
set_option maxRecDepth 100000 in
set_option maxHeartbeats 4000000 in
theorem k_TM_get (l : Launch) (g : kG) (N : Nat) (M : kMem) (a0 : Nat) (x1 : Int32) : kMetD l g yTM_get cTM_get 3 (some (.object "java/lang/Object")) 6 [.ref a0, .retAddr (g.1 (2000 + kBi x1))] M (fun r : Nat => (some (.ref r), M)) (F_TM_get N M a0 x1) := by
  refine k_ofD (lv := [(0, .ref a0), (1, .retAddr (g.1 (2000 + kBi x1)))]) RTM (by decide) rfl rfl (Nat.le_of_ble_eq_true rfl) ?_
  unfold F_TM_get
  refine d_st (fun hX _ => g_aload_n 1 0 (hX _) dTM_get_0 rfl rfl) rfl ?_
  refine d_st (fun hX _ => g_aloadS_n 2 1 (hX _) dTM_get_1 rfl rfl) rfl ?_
  refine d_callV 5 (k_TM_getEntry l g N M a0 x1) lk_TM_getEntry (ci := 34) (T := TTM) (N := 9) rfl (Nat.le_of_ble_eq_true rfl) q_1134 (fun s args ht => ht _ q_1136) (by decide) rfl (Nat.le_of_ble_eq_true rfl) dTM_get_2 rfl (fun r1 _ => ?_)
  show GD _ _ _ _ _ [.ref r1] M
  refine d_st (fun hX _ => g_astore_n 6 2 [(2, .ref r1), (0, .ref a0), (1, .retAddr (g.1 (2000 + kBi x1)))] (hX _) dTM_get_5 rfl rfl (Nat.le_of_ble_eq_true rfl) rfl) rfl ?_
  refine d_st (fun hX _ => g_aload_n 7 0 (hX _) dTM_get_6 rfl rfl) rfl ?_
  refine d_ifN (fun hX _ => g_ifnonnull 14 10 (hX _) dTM_get_7 (by decide) rfl) (fun _ => ?_) (fun _ => ?_)
  · refine d_st (fun hX _ => g_aload_n 15 0 (hX _) dTM_get_14 rfl rfl) rfl ?_
    refine d_g (fun hX _ => e_TM_58 18 (hX _) dTM_get_15 rfl) rfl ?_
    exact d_aret rfl (Or.inl ⟨_, rfl⟩) rfl dTM_get_18
  · refine d_st (fun hX _ => g_null 11 (hX _) dTM_get_10 rfl) rfl ?_
    refine d_st (fun hX _ => g_goto 18 (hX _) dTM_get_11 (by decide)) rfl ?_
    exact d_aret rfl (Or.inl ⟨_, rfl⟩) rfl dTM_get_18
set_option maxRecDepth 100000 in
set_option maxHeartbeats 4000000 in
theorem k_TM_getFirstEntry_9 {l : Launch} {g : kG} {L0 : Nat} (N : Nat) (M : kMem) : ∀ (n : Nat) (a1 : Nat), GD (l, cTM_getFirstEntry, 2, RTM, g, 2, L0, (some (.object "java/util/TreeMap$Entry")), yTM_getFirstEntry.name) (fun r : Nat => (some (.ref r), M)) (F_TM_getFirstEntry_9 N M n a1) 9 [(1, .ref a1)] [] M := by
  intro n
  induction n with
  | zero => intro _; exact d_none
  | succ n ih =>
    intro a1
    unfold F_TM_getFirstEntry_9
    refine d_st (fun hX _ => g_aload_n 10 0 (hX _) dTM_getFirstEntry_9 rfl rfl) rfl ?_
    refine d_g (fun hX _ => e_TM_111 13 (hX _) dTM_getFirstEntry_10 rfl) rfl ?_
    refine d_if (fun hX _ => g_ifnull 24 16 (hX _) dTM_getFirstEntry_13 (by decide) rfl) (fun _ => ?_) (fun _ => ?_)
    · refine d_st (fun hX _ => g_aload_n 25 0 (hX _) dTM_getFirstEntry_24 rfl rfl) rfl ?_
      exact d_aret rfl (Or.inl ⟨_, rfl⟩) rfl dTM_getFirstEntry_25
    · refine d_st (fun hX _ => g_aload_n 17 0 (hX _) dTM_getFirstEntry_16 rfl rfl) rfl ?_
      refine d_g (fun hX _ => e_TM_111 20 (hX _) dTM_getFirstEntry_17 rfl) rfl ?_
      refine d_klR (fun w2 hw2 => ?_)
      refine d_st (fun hX _ => g_astore_n 21 1 [(1, .ref w2)] (hX _) dTM_getFirstEntry_20 rfl rfl (Nat.le_of_ble_eq_true rfl) rfl) rfl ?_
      refine d_st (fun hX _ => g_goto 9 (hX _) dTM_getFirstEntry_21 (by decide)) rfl ?_
      exact ih w2
set_option maxRecDepth 100000 in
set_option maxHeartbeats 4000000 in
theorem k_TM_getFirstEntry (l : Launch) (g : kG) (N : Nat) (M : kMem) (a0 : Nat) : kMetD l g yTM_getFirstEntry cTM_getFirstEntry 2 (some (.object "java/util/TreeMap$Entry")) 2 [.ref a0] M (fun r : Nat => (some (.ref r), M)) (F_TM_getFirstEntry N M a0) := by
  refine k_ofD (lv := [(0, .ref a0)]) RTM (by decide) rfl rfl (Nat.le_of_ble_eq_true rfl) ?_
  unfold F_TM_getFirstEntry
  refine d_st (fun hX _ => g_aload_n 1 0 (hX _) dTM_getFirstEntry_0 rfl rfl) rfl ?_
  refine d_g (fun hX _ => e_TM_101 4 (hX _) dTM_getFirstEntry_1 rfl) rfl ?_
  refine d_klR (fun w1 hw1 => ?_)
  refine d_st (fun hX _ => g_astore_n 5 1 [(1, .ref w1), (0, .ref a0)] (hX _) dTM_getFirstEntry_4 rfl rfl (Nat.le_of_ble_eq_true rfl) rfl) rfl ?_
  refine d_st (fun hX _ => g_aload_n 6 0 (hX _) dTM_getFirstEntry_5 rfl rfl) rfl ?_
  refine d_if (fun hX _ => g_ifnull 24 9 (hX _) dTM_getFirstEntry_6 (by decide) rfl) (fun _ => ?_) (fun _ => ?_)
  · refine d_st (fun hX _ => g_aload_n 25 0 (hX _) dTM_getFirstEntry_24 rfl rfl) rfl ?_
    exact d_aret rfl (Or.inl ⟨_, rfl⟩) rfl dTM_getFirstEntry_25
  · refine d_st (fun hX _ => g_lv [0] rfl) rfl ?_
    exact k_TM_getFirstEntry_9 N M N w1
set_option maxRecDepth 100000 in
set_option maxHeartbeats 4000000 in
theorem k_TM_getLastEntry_9 {l : Launch} {g : kG} {L0 : Nat} (N : Nat) (M : kMem) : ∀ (n : Nat) (a1 : Nat), GD (l, cTM_getLastEntry, 2, RTM, g, 2, L0, (some (.object "java/util/TreeMap$Entry")), yTM_getLastEntry.name) (fun r : Nat => (some (.ref r), M)) (F_TM_getLastEntry_9 N M n a1) 9 [(1, .ref a1)] [] M := by
  intro n
  induction n with
  | zero => intro _; exact d_none
  | succ n ih =>
    intro a1
    unfold F_TM_getLastEntry_9
    refine d_st (fun hX _ => g_aload_n 10 0 (hX _) dTM_getLastEntry_9 rfl rfl) rfl ?_
    refine d_g (fun hX _ => e_TM_114 13 (hX _) dTM_getLastEntry_10 rfl) rfl ?_
    refine d_if (fun hX _ => g_ifnull 24 16 (hX _) dTM_getLastEntry_13 (by decide) rfl) (fun _ => ?_) (fun _ => ?_)
    · refine d_st (fun hX _ => g_aload_n 25 0 (hX _) dTM_getLastEntry_24 rfl rfl) rfl ?_
      exact d_aret rfl (Or.inl ⟨_, rfl⟩) rfl dTM_getLastEntry_25
    · refine d_st (fun hX _ => g_aload_n 17 0 (hX _) dTM_getLastEntry_16 rfl rfl) rfl ?_
      refine d_g (fun hX _ => e_TM_114 20 (hX _) dTM_getLastEntry_17 rfl) rfl ?_
      refine d_klR (fun w2 hw2 => ?_)
      refine d_st (fun hX _ => g_astore_n 21 1 [(1, .ref w2)] (hX _) dTM_getLastEntry_20 rfl rfl (Nat.le_of_ble_eq_true rfl) rfl) rfl ?_
      refine d_st (fun hX _ => g_goto 9 (hX _) dTM_getLastEntry_21 (by decide)) rfl ?_
      exact ih w2
set_option maxRecDepth 100000 in
set_option maxHeartbeats 4000000 in
theorem k_TM_getLastEntry (l : Launch) (g : kG) (N : Nat) (M : kMem) (a0 : Nat) : kMetD l g yTM_getLastEntry cTM_getLastEntry 2 (some (.object "java/util/TreeMap$Entry")) 2 [.ref a0] M (fun r : Nat => (some (.ref r), M)) (F_TM_getLastEntry N M a0) := by
  refine k_ofD (lv := [(0, .ref a0)]) RTM (by decide) rfl rfl (Nat.le_of_ble_eq_true rfl) ?_
  unfold F_TM_getLastEntry
  refine d_st (fun hX _ => g_aload_n 1 0 (hX _) dTM_getLastEntry_0 rfl rfl) rfl ?_
  refine d_g (fun hX _ => e_TM_101 4 (hX _) dTM_getLastEntry_1 rfl) rfl ?_
  refine d_klR (fun w1 hw1 => ?_)
  refine d_st (fun hX _ => g_astore_n 5 1 [(1, .ref w1), (0, .ref a0)] (hX _) dTM_getLastEntry_4 rfl rfl (Nat.le_of_ble_eq_true rfl) rfl) rfl ?_
  refine d_st (fun hX _ => g_aload_n 6 0 (hX _) dTM_getLastEntry_5 rfl rfl) rfl ?_
  refine d_if (fun hX _ => g_ifnull 24 9 (hX _) dTM_getLastEntry_6 (by decide) rfl) (fun _ => ?_) (fun _ => ?_)
  · refine d_st (fun hX _ => g_aload_n 25 0 (hX _) dTM_getLastEntry_24 rfl rfl) rfl ?_
    exact d_aret rfl (Or.inl ⟨_, rfl⟩) rfl dTM_getLastEntry_25
  · refine d_st (fun hX _ => g_lv [0] rfl) rfl ?_
    exact k_TM_getLastEntry_9 N M N w1
set_option maxRecDepth 100000 in
set_option maxHeartbeats 4000000 in
theorem k_TM_successor_42 {l : Launch} {g : kG} {L0 : Nat} (N : Nat) (M : kMem) : ∀ (n : Nat) (a1 : Nat) (a2 : Nat), GD (l, cTM_successor, 3, RTM, g, 2, L0, (some (.object "java/util/TreeMap$Entry")), yTM_successor.name) (fun r : Nat => (some (.ref r), M)) (F_TM_successor_42 N M n a1 a2) 42 [(1, .ref a1), (2, .ref a2)] [] M := by
  intro n
  induction n with
  | zero => intro _ _; exact d_none
  | succ n ih =>
    intro a1 a2
    unfold F_TM_successor_42
    refine d_st (fun hX _ => g_aload_n 43 0 (hX _) dTM_successor_42 rfl rfl) rfl ?_
    refine d_if (fun hX _ => g_ifnull 64 46 (hX _) dTM_successor_43 (by decide) rfl) (fun _ => ?_) (fun _ => ?_)
    · refine d_st (fun hX _ => g_aload_n 65 0 (hX _) dTM_successor_64 rfl rfl) rfl ?_
      exact d_aret rfl (Or.inl ⟨_, rfl⟩) rfl dTM_successor_65
    · refine d_st (fun hX _ => g_aload_n 47 1 (hX _) dTM_successor_46 rfl rfl) rfl ?_
      refine d_st (fun hX _ => g_aload_n 48 0 (hX _) dTM_successor_47 rfl rfl) rfl ?_
      refine d_g (fun hX _ => e_TM_114 51 (hX _) dTM_successor_48 rfl) rfl ?_
      refine d_ifN (fun hX _ => g_acmp_ne 64 54 (hX _) dTM_successor_51 (by decide) rfl) (fun _ => ?_) (fun _ => ?_)
      · refine d_st (fun hX _ => g_aload_n 65 0 (hX _) dTM_successor_64 rfl rfl) rfl ?_
        exact d_aret rfl (Or.inl ⟨_, rfl⟩) rfl dTM_successor_65
      · refine d_st (fun hX _ => g_aload_n 55 0 (hX _) dTM_successor_54 rfl rfl) rfl ?_
        refine d_st (fun hX _ => g_astore_n 56 2 [(2, .ref a1), (1, .ref a1)] (hX _) dTM_successor_55 rfl rfl (Nat.le_of_ble_eq_true rfl) rfl) rfl ?_
        refine d_st (fun hX _ => g_aload_n 57 1 (hX _) dTM_successor_56 rfl rfl) rfl ?_
        refine d_g (fun hX _ => e_TM_124 60 (hX _) dTM_successor_57 rfl) rfl ?_
        refine d_klR (fun w2 hw2 => ?_)
        refine d_st (fun hX _ => g_astore_n 61 1 [(1, .ref w2), (2, .ref a1)] (hX _) dTM_successor_60 rfl rfl (Nat.le_of_ble_eq_true rfl) rfl) rfl ?_
        refine d_st (fun hX _ => g_goto 42 (hX _) dTM_successor_61 (by decide)) rfl ?_
        exact ih w2 a1
set_option maxRecDepth 100000 in
set_option maxHeartbeats 4000000 in
theorem k_TM_successor_18 {l : Launch} {g : kG} {L0 : Nat} (N : Nat) (M : kMem) : ∀ (n : Nat) (a1 : Nat), GD (l, cTM_successor, 3, RTM, g, 2, L0, (some (.object "java/util/TreeMap$Entry")), yTM_successor.name) (fun r : Nat => (some (.ref r), M)) (F_TM_successor_18 N M n a1) 18 [(1, .ref a1)] [] M := by
  intro n
  induction n with
  | zero => intro _; exact d_none
  | succ n ih =>
    intro a1
    unfold F_TM_successor_18
    refine d_st (fun hX _ => g_aload_n 19 0 (hX _) dTM_successor_18 rfl rfl) rfl ?_
    refine d_g (fun hX _ => e_TM_111 22 (hX _) dTM_successor_19 rfl) rfl ?_
    refine d_if (fun hX _ => g_ifnull 33 25 (hX _) dTM_successor_22 (by decide) rfl) (fun _ => ?_) (fun _ => ?_)
    · refine d_st (fun hX _ => g_aload_n 34 0 (hX _) dTM_successor_33 rfl rfl) rfl ?_
      exact d_aret rfl (Or.inl ⟨_, rfl⟩) rfl dTM_successor_34
    · refine d_st (fun hX _ => g_aload_n 26 0 (hX _) dTM_successor_25 rfl rfl) rfl ?_
      refine d_g (fun hX _ => e_TM_111 29 (hX _) dTM_successor_26 rfl) rfl ?_
      refine d_klR (fun w4 hw4 => ?_)
      refine d_st (fun hX _ => g_astore_n 30 1 [(1, .ref w4)] (hX _) dTM_successor_29 rfl rfl (Nat.le_of_ble_eq_true rfl) rfl) rfl ?_
      refine d_st (fun hX _ => g_goto 18 (hX _) dTM_successor_30 (by decide)) rfl ?_
      exact ih w4
set_option maxRecDepth 100000 in
set_option maxHeartbeats 4000000 in
theorem k_TM_successor (l : Launch) (g : kG) (N : Nat) (M : kMem) (a0 : Nat) : kMetD l g yTM_successor cTM_successor 3 (some (.object "java/util/TreeMap$Entry")) 2 [.ref a0] M (fun r : Nat => (some (.ref r), M)) (F_TM_successor N M a0) := by
  refine k_ofD (lv := [(0, .ref a0)]) RTM (by decide) rfl rfl (Nat.le_of_ble_eq_true rfl) ?_
  unfold F_TM_successor
  refine d_st (fun hX _ => g_aload_n 1 0 (hX _) dTM_successor_0 rfl rfl) rfl ?_
  refine d_ifN (fun hX _ => g_ifnonnull 6 4 (hX _) dTM_successor_1 (by decide) rfl) (fun _ => ?_) (fun _ => ?_)
  · refine d_st (fun hX _ => g_aload_n 7 0 (hX _) dTM_successor_6 rfl rfl) rfl ?_
    refine d_g (fun hX _ => e_TM_114 10 (hX _) dTM_successor_7 rfl) rfl ?_
    refine d_if (fun hX _ => g_ifnull 35 13 (hX _) dTM_successor_10 (by decide) rfl) (fun _ => ?_) (fun _ => ?_)
    · refine d_st (fun hX _ => g_aload_n 36 0 (hX _) dTM_successor_35 rfl rfl) rfl ?_
      refine d_g (fun hX _ => e_TM_124 39 (hX _) dTM_successor_36 rfl) rfl ?_
      refine d_klR (fun w1 hw1 => ?_)
      refine d_st (fun hX _ => g_astore_n 40 1 [(1, .ref w1), (0, .ref a0)] (hX _) dTM_successor_39 rfl rfl (Nat.le_of_ble_eq_true rfl) rfl) rfl ?_
      refine d_st (fun hX _ => g_aload_n 41 1 (hX _) dTM_successor_40 rfl rfl) rfl ?_
      refine d_st (fun hX _ => g_astore_n 42 2 [(2, .ref a0), (1, .ref w1), (0, .ref a0)] (hX _) dTM_successor_41 rfl rfl (Nat.le_of_ble_eq_true rfl) rfl) rfl ?_
      refine d_st (fun hX _ => g_lv [1, 0] rfl) rfl ?_
      exact k_TM_successor_42 N M N w1 a0
    · refine d_st (fun hX _ => g_aload_n 14 0 (hX _) dTM_successor_13 rfl rfl) rfl ?_
      refine d_g (fun hX _ => e_TM_114 17 (hX _) dTM_successor_14 rfl) rfl ?_
      refine d_klR (fun w3 hw3 => ?_)
      refine d_st (fun hX _ => g_astore_n 18 1 [(1, .ref w3), (0, .ref a0)] (hX _) dTM_successor_17 rfl rfl (Nat.le_of_ble_eq_true rfl) rfl) rfl ?_
      refine d_st (fun hX _ => g_lv [0] rfl) rfl ?_
      exact k_TM_successor_18 N M N w3
  · refine d_st (fun hX _ => g_null 5 (hX _) dTM_successor_4 rfl) rfl ?_
    exact d_aret rfl (Or.inl ⟨_, rfl⟩) rfl dTM_successor_5
set_option maxRecDepth 100000 in
set_option maxHeartbeats 4000000 in
theorem k_TM_colorOf (l : Launch) (g : kG) (N : Nat) (M : kMem) (a0 : Nat) : kMetD l g yTM_colorOf cTM_colorOf 1 (some .boolean) 2 [.ref a0] M (fun r : Int32 => (some (.int r), M)) (F_TM_colorOf N M a0) := by
  refine k_ofD (lv := [(0, .ref a0)]) RTM (by decide) rfl rfl (Nat.le_of_ble_eq_true rfl) ?_
  unfold F_TM_colorOf
  refine d_st (fun hX _ => g_aload_n 1 0 (hX _) dTM_colorOf_0 rfl rfl) rfl ?_
  refine d_ifN (fun hX _ => g_ifnonnull 8 4 (hX _) dTM_colorOf_1 (by decide) rfl) (fun _ => ?_) (fun _ => ?_)
  · refine d_st (fun hX _ => g_aload_n 9 0 (hX _) dTM_colorOf_8 rfl rfl) rfl ?_
    refine d_g (fun hX _ => e_TM_290 12 (hX _) dTM_colorOf_9 rfl) rfl ?_
    exact d_zret rfl rfl dTM_colorOf_12
  · refine d_st (fun hX _ => g_iconst 5 (hX _) 1 dTM_colorOf_4 rfl kc_i_1) rfl ?_
    refine d_st (fun hX _ => g_goto 12 (hX _) dTM_colorOf_5 (by decide)) rfl ?_
    exact d_zretL rfl rfl rfl dTM_colorOf_12
set_option maxRecDepth 100000 in
set_option maxHeartbeats 4000000 in
theorem k_TM_parentOf (l : Launch) (g : kG) (N : Nat) (M : kMem) (a0 : Nat) : kMetD l g yTM_parentOf cTM_parentOf 1 (some (.object "java/util/TreeMap$Entry")) 2 [.ref a0] M (fun r : Nat => (some (.ref r), M)) (F_TM_parentOf N M a0) := by
  refine k_ofD (lv := [(0, .ref a0)]) RTM (by decide) rfl rfl (Nat.le_of_ble_eq_true rfl) ?_
  unfold F_TM_parentOf
  refine d_st (fun hX _ => g_aload_n 1 0 (hX _) dTM_parentOf_0 rfl rfl) rfl ?_
  refine d_ifN (fun hX _ => g_ifnonnull 8 4 (hX _) dTM_parentOf_1 (by decide) rfl) (fun _ => ?_) (fun _ => ?_)
  · refine d_st (fun hX _ => g_aload_n 9 0 (hX _) dTM_parentOf_8 rfl rfl) rfl ?_
    refine d_g (fun hX _ => e_TM_124 12 (hX _) dTM_parentOf_9 rfl) rfl ?_
    exact d_aret rfl (Or.inl ⟨_, rfl⟩) rfl dTM_parentOf_12
  · refine d_st (fun hX _ => g_null 5 (hX _) dTM_parentOf_4 rfl) rfl ?_
    refine d_st (fun hX _ => g_goto 12 (hX _) dTM_parentOf_5 (by decide)) rfl ?_
    exact d_aret rfl (Or.inl ⟨_, rfl⟩) rfl dTM_parentOf_12
set_option maxRecDepth 100000 in
set_option maxHeartbeats 4000000 in
theorem k_TM_leftOf (l : Launch) (g : kG) (N : Nat) (M : kMem) (a0 : Nat) : kMetD l g yTM_leftOf cTM_leftOf 1 (some (.object "java/util/TreeMap$Entry")) 2 [.ref a0] M (fun r : Nat => (some (.ref r), M)) (F_TM_leftOf N M a0) := by
  refine k_ofD (lv := [(0, .ref a0)]) RTM (by decide) rfl rfl (Nat.le_of_ble_eq_true rfl) ?_
  unfold F_TM_leftOf
  refine d_st (fun hX _ => g_aload_n 1 0 (hX _) dTM_leftOf_0 rfl rfl) rfl ?_
  refine d_ifN (fun hX _ => g_ifnonnull 8 4 (hX _) dTM_leftOf_1 (by decide) rfl) (fun _ => ?_) (fun _ => ?_)
  · refine d_st (fun hX _ => g_aload_n 9 0 (hX _) dTM_leftOf_8 rfl rfl) rfl ?_
    refine d_g (fun hX _ => e_TM_111 12 (hX _) dTM_leftOf_9 rfl) rfl ?_
    exact d_aret rfl (Or.inl ⟨_, rfl⟩) rfl dTM_leftOf_12
  · refine d_st (fun hX _ => g_null 5 (hX _) dTM_leftOf_4 rfl) rfl ?_
    refine d_st (fun hX _ => g_goto 12 (hX _) dTM_leftOf_5 (by decide)) rfl ?_
    exact d_aret rfl (Or.inl ⟨_, rfl⟩) rfl dTM_leftOf_12
set_option maxRecDepth 100000 in
set_option maxHeartbeats 4000000 in
theorem k_TM_rightOf (l : Launch) (g : kG) (N : Nat) (M : kMem) (a0 : Nat) : kMetD l g yTM_rightOf cTM_rightOf 1 (some (.object "java/util/TreeMap$Entry")) 2 [.ref a0] M (fun r : Nat => (some (.ref r), M)) (F_TM_rightOf N M a0) := by
  refine k_ofD (lv := [(0, .ref a0)]) RTM (by decide) rfl rfl (Nat.le_of_ble_eq_true rfl) ?_
  unfold F_TM_rightOf
  refine d_st (fun hX _ => g_aload_n 1 0 (hX _) dTM_rightOf_0 rfl rfl) rfl ?_
  refine d_ifN (fun hX _ => g_ifnonnull 8 4 (hX _) dTM_rightOf_1 (by decide) rfl) (fun _ => ?_) (fun _ => ?_)
  · refine d_st (fun hX _ => g_aload_n 9 0 (hX _) dTM_rightOf_8 rfl rfl) rfl ?_
    refine d_g (fun hX _ => e_TM_114 12 (hX _) dTM_rightOf_9 rfl) rfl ?_
    exact d_aret rfl (Or.inl ⟨_, rfl⟩) rfl dTM_rightOf_12
  · refine d_st (fun hX _ => g_null 5 (hX _) dTM_rightOf_4 rfl) rfl ?_
    refine d_st (fun hX _ => g_goto 12 (hX _) dTM_rightOf_5 (by decide)) rfl ?_
    exact d_aret rfl (Or.inl ⟨_, rfl⟩) rfl dTM_rightOf_12
set_option maxRecDepth 100000 in
set_option maxHeartbeats 4000000 in
theorem k_TM_setColor (l : Launch) (g : kG) (N : Nat) (M : kMem) (a0 : Nat) (x1 : Int32) : kMetD l g yTM_setColor cTM_setColor 2 none 2 [.ref a0, .int x1] M (fun r : kMem => (none, r)) (F_TM_setColor N M a0 x1) := by
  refine k_ofD (lv := [(0, .ref a0), (1, .int x1)]) RTM (by decide) rfl rfl (Nat.le_of_ble_eq_true rfl) ?_
  unfold F_TM_setColor
  refine d_st (fun hX _ => g_aload_n 1 0 (hX _) dTM_setColor_0 rfl rfl) rfl ?_
  refine d_if (fun hX _ => g_ifnull 9 4 (hX _) dTM_setColor_1 (by decide) rfl) (fun _ => ?_) (fun _ => ?_)
  · exact d_vret rfl rfl dTM_setColor_9
  · refine d_st (fun hX _ => g_aload_n 5 0 (hX _) dTM_setColor_4 rfl rfl) rfl ?_
    refine d_st (fun hX _ => g_iload_n 6 1 (hX _) dTM_setColor_5 rfl rfl) rfl ?_
    refine d_g (fun hX _ => uz_TM_290 9 (hX _) dTM_setColor_6 rfl) rfl ?_
    refine d_klM (fun M1 hM1 => ?_)
    exact d_vret rfl rfl dTM_setColor_9
set_option maxRecDepth 100000 in
set_option maxHeartbeats 4000000 in
theorem k_TM_rotateLeft_32 {l : Launch} {g : kG} {L0 : Nat} (N : Nat) : ∀ (M : kMem) (a0 : Nat) (a1 : Nat) (a2 : Nat), GD (l, cTM_rotateLeft, 3, RTM, g, 2, L0, none, yTM_rotateLeft.name) (fun r : kMem => (none, r)) (F_TM_rotateLeft_32 N M a0 a1 a2) 32 [(0, .ref a0), (1, .ref a1), (2, .ref a2)] [] M := by
  intro M a0 a1 a2
  unfold F_TM_rotateLeft_32
  refine d_st (fun hX _ => g_aload_n 33 2 (hX _) dTM_rotateLeft_32 rfl rfl) rfl ?_
  refine d_st (fun hX _ => g_aload_n 34 1 (hX _) dTM_rotateLeft_33 rfl rfl) rfl ?_
  refine d_g (fun hX _ => e_TM_124 37 (hX _) dTM_rotateLeft_34 rfl) rfl ?_
  refine d_g (fun hX _ => ur_TM_124 40 (hX _) dTM_rotateLeft_37 rfl) rfl ?_
  refine d_klM (fun M3 hM3 => ?_)
  refine d_st (fun hX _ => g_aload_n 41 1 (hX _) dTM_rotateLeft_40 rfl rfl) rfl ?_
  refine d_g (fun hX _ => e_TM_124 44 (hX _) dTM_rotateLeft_41 rfl) rfl ?_
  refine d_ifN (fun hX _ => g_ifnonnull 55 47 (hX _) dTM_rotateLeft_44 (by decide) rfl) (fun _ => ?_) (fun _ => ?_)
  · refine d_st (fun hX _ => g_aload_n 56 1 (hX _) dTM_rotateLeft_55 rfl rfl) rfl ?_
    refine d_g (fun hX _ => e_TM_124 59 (hX _) dTM_rotateLeft_56 rfl) rfl ?_
    refine d_g (fun hX _ => e_TM_111 62 (hX _) dTM_rotateLeft_59 rfl) rfl ?_
    refine d_st (fun hX _ => g_aload_n 63 1 (hX _) dTM_rotateLeft_62 rfl rfl) rfl ?_
    refine d_ifN (fun hX _ => g_acmp_ne 77 66 (hX _) dTM_rotateLeft_63 (by decide) rfl) (fun _ => ?_) (fun _ => ?_)
    · refine d_st (fun hX _ => g_aload_n 78 1 (hX _) dTM_rotateLeft_77 rfl rfl) rfl ?_
      refine d_g (fun hX _ => e_TM_124 81 (hX _) dTM_rotateLeft_78 rfl) rfl ?_
      refine d_st (fun hX _ => g_aload_n 82 2 (hX _) dTM_rotateLeft_81 rfl rfl) rfl ?_
      refine d_g (fun hX _ => ur_TM_114 85 (hX _) dTM_rotateLeft_82 rfl) rfl ?_
      refine d_klM (fun M4 hM4 => ?_)
      refine d_st (fun hX _ => g_aload_n 86 2 (hX _) dTM_rotateLeft_85 rfl rfl) rfl ?_
      refine d_st (fun hX _ => g_aload_n 87 1 (hX _) dTM_rotateLeft_86 rfl rfl) rfl ?_
      refine d_g (fun hX _ => ur_TM_111 90 (hX _) dTM_rotateLeft_87 rfl) rfl ?_
      refine d_klM (fun M5 hM5 => ?_)
      refine d_st (fun hX _ => g_aload_n 91 1 (hX _) dTM_rotateLeft_90 rfl rfl) rfl ?_
      refine d_st (fun hX _ => g_aload_n 92 2 (hX _) dTM_rotateLeft_91 rfl rfl) rfl ?_
      refine d_g (fun hX _ => ur_TM_124 95 (hX _) dTM_rotateLeft_92 rfl) rfl ?_
      refine d_klM (fun M6 hM6 => ?_)
      exact d_vret rfl rfl dTM_rotateLeft_95
    · refine d_st (fun hX _ => g_aload_n 67 1 (hX _) dTM_rotateLeft_66 rfl rfl) rfl ?_
      refine d_g (fun hX _ => e_TM_124 70 (hX _) dTM_rotateLeft_67 rfl) rfl ?_
      refine d_st (fun hX _ => g_aload_n 71 2 (hX _) dTM_rotateLeft_70 rfl rfl) rfl ?_
      refine d_g (fun hX _ => ur_TM_111 74 (hX _) dTM_rotateLeft_71 rfl) rfl ?_
      refine d_klM (fun M7 hM7 => ?_)
      refine d_st (fun hX _ => g_goto 85 (hX _) dTM_rotateLeft_74 (by decide)) rfl ?_
      refine d_st (fun hX _ => g_aload_n 86 2 (hX _) dTM_rotateLeft_85 rfl rfl) rfl ?_
      refine d_st (fun hX _ => g_aload_n 87 1 (hX _) dTM_rotateLeft_86 rfl rfl) rfl ?_
      refine d_g (fun hX _ => ur_TM_111 90 (hX _) dTM_rotateLeft_87 rfl) rfl ?_
      refine d_klM (fun M8 hM8 => ?_)
      refine d_st (fun hX _ => g_aload_n 91 1 (hX _) dTM_rotateLeft_90 rfl rfl) rfl ?_
      refine d_st (fun hX _ => g_aload_n 92 2 (hX _) dTM_rotateLeft_91 rfl rfl) rfl ?_
      refine d_g (fun hX _ => ur_TM_124 95 (hX _) dTM_rotateLeft_92 rfl) rfl ?_
      refine d_klM (fun M9 hM9 => ?_)
      exact d_vret rfl rfl dTM_rotateLeft_95
  · refine d_st (fun hX _ => g_aload_n 48 0 (hX _) dTM_rotateLeft_47 rfl rfl) rfl ?_
    refine d_st (fun hX _ => g_aload_n 49 2 (hX _) dTM_rotateLeft_48 rfl rfl) rfl ?_
    refine d_g (fun hX _ => ur_TM_101 52 (hX _) dTM_rotateLeft_49 rfl) rfl ?_
    refine d_klM (fun M10 hM10 => ?_)
    refine d_st (fun hX _ => g_goto 85 (hX _) dTM_rotateLeft_52 (by decide)) rfl ?_
    refine d_st (fun hX _ => g_aload_n 86 2 (hX _) dTM_rotateLeft_85 rfl rfl) rfl ?_
    refine d_st (fun hX _ => g_aload_n 87 1 (hX _) dTM_rotateLeft_86 rfl rfl) rfl ?_
    refine d_g (fun hX _ => ur_TM_111 90 (hX _) dTM_rotateLeft_87 rfl) rfl ?_
    refine d_klM (fun M11 hM11 => ?_)
    refine d_st (fun hX _ => g_aload_n 91 1 (hX _) dTM_rotateLeft_90 rfl rfl) rfl ?_
    refine d_st (fun hX _ => g_aload_n 92 2 (hX _) dTM_rotateLeft_91 rfl rfl) rfl ?_
    refine d_g (fun hX _ => ur_TM_124 95 (hX _) dTM_rotateLeft_92 rfl) rfl ?_
    refine d_klM (fun M12 hM12 => ?_)
    exact d_vret rfl rfl dTM_rotateLeft_95
set_option maxRecDepth 100000 in
set_option maxHeartbeats 4000000 in
theorem k_TM_rotateLeft (l : Launch) (g : kG) (N : Nat) (M : kMem) (a0 : Nat) (a1 : Nat) : kMetD l g yTM_rotateLeft cTM_rotateLeft 3 none 2 [.ref a0, .ref a1] M (fun r : kMem => (none, r)) (F_TM_rotateLeft N M a0 a1) := by
  refine k_ofD (lv := [(0, .ref a0), (1, .ref a1)]) RTM (by decide) rfl rfl (Nat.le_of_ble_eq_true rfl) ?_
  unfold F_TM_rotateLeft
  refine d_st (fun hX _ => g_aload_n 1 1 (hX _) dTM_rotateLeft_0 rfl rfl) rfl ?_
  refine d_if (fun hX _ => g_ifnull 95 4 (hX _) dTM_rotateLeft_1 (by decide) rfl) (fun _ => ?_) (fun _ => ?_)
  · exact d_vret rfl rfl dTM_rotateLeft_95
  · refine d_st (fun hX _ => g_aload_n 5 1 (hX _) dTM_rotateLeft_4 rfl rfl) rfl ?_
    refine d_g (fun hX _ => e_TM_114 8 (hX _) dTM_rotateLeft_5 rfl) rfl ?_
    refine d_klR (fun w1 hw1 => ?_)
    refine d_st (fun hX _ => g_astore_n 9 2 [(2, .ref w1), (0, .ref a0), (1, .ref a1)] (hX _) dTM_rotateLeft_8 rfl rfl (Nat.le_of_ble_eq_true rfl) rfl) rfl ?_
    refine d_st (fun hX _ => g_aload_n 10 2 (hX _) dTM_rotateLeft_9 rfl rfl) rfl ?_
    refine d_st (fun hX _ => g_aload_n 11 0 (hX _) dTM_rotateLeft_10 rfl rfl) rfl ?_
    refine d_g (fun hX _ => e_TM_111 14 (hX _) dTM_rotateLeft_11 rfl) rfl ?_
    refine d_g (fun hX _ => ur_TM_114 17 (hX _) dTM_rotateLeft_14 rfl) rfl ?_
    refine d_klM (fun M2 hM2 => ?_)
    refine d_st (fun hX _ => g_aload_n 18 0 (hX _) dTM_rotateLeft_17 rfl rfl) rfl ?_
    refine d_g (fun hX _ => e_TM_111 21 (hX _) dTM_rotateLeft_18 rfl) rfl ?_
    refine d_if (fun hX _ => g_ifnull 32 24 (hX _) dTM_rotateLeft_21 (by decide) rfl) (fun _ => ?_) (fun _ => ?_)
    · refine d_st (fun hX _ => g_lv [1, 2, 0] rfl) rfl ?_
      exact k_TM_rotateLeft_32 N M2 a0 a1 w1
    · refine d_st (fun hX _ => g_aload_n 25 0 (hX _) dTM_rotateLeft_24 rfl rfl) rfl ?_
      refine d_g (fun hX _ => e_TM_111 28 (hX _) dTM_rotateLeft_25 rfl) rfl ?_
      refine d_st (fun hX _ => g_aload_n 29 2 (hX _) dTM_rotateLeft_28 rfl rfl) rfl ?_
      refine d_g (fun hX _ => ur_TM_124 32 (hX _) dTM_rotateLeft_29 rfl) rfl ?_
      refine d_klM (fun M13 hM13 => ?_)
      refine d_st (fun hX _ => g_lv [1, 2, 0] rfl) rfl ?_
      exact k_TM_rotateLeft_32 N M13 a0 a1 w1
set_option maxRecDepth 100000 in
set_option maxHeartbeats 4000000 in
theorem k_TM_rotateRight_32 {l : Launch} {g : kG} {L0 : Nat} (N : Nat) : ∀ (M : kMem) (a0 : Nat) (a1 : Nat) (a2 : Nat), GD (l, cTM_rotateRight, 3, RTM, g, 2, L0, none, yTM_rotateRight.name) (fun r : kMem => (none, r)) (F_TM_rotateRight_32 N M a0 a1 a2) 32 [(0, .ref a0), (1, .ref a1), (2, .ref a2)] [] M := by
  intro M a0 a1 a2
  unfold F_TM_rotateRight_32
  refine d_st (fun hX _ => g_aload_n 33 2 (hX _) dTM_rotateRight_32 rfl rfl) rfl ?_
  refine d_st (fun hX _ => g_aload_n 34 1 (hX _) dTM_rotateRight_33 rfl rfl) rfl ?_
  refine d_g (fun hX _ => e_TM_124 37 (hX _) dTM_rotateRight_34 rfl) rfl ?_
  refine d_g (fun hX _ => ur_TM_124 40 (hX _) dTM_rotateRight_37 rfl) rfl ?_
  refine d_klM (fun M3 hM3 => ?_)
  refine d_st (fun hX _ => g_aload_n 41 1 (hX _) dTM_rotateRight_40 rfl rfl) rfl ?_
  refine d_g (fun hX _ => e_TM_124 44 (hX _) dTM_rotateRight_41 rfl) rfl ?_
  refine d_ifN (fun hX _ => g_ifnonnull 55 47 (hX _) dTM_rotateRight_44 (by decide) rfl) (fun _ => ?_) (fun _ => ?_)
  · refine d_st (fun hX _ => g_aload_n 56 1 (hX _) dTM_rotateRight_55 rfl rfl) rfl ?_
    refine d_g (fun hX _ => e_TM_124 59 (hX _) dTM_rotateRight_56 rfl) rfl ?_
    refine d_g (fun hX _ => e_TM_114 62 (hX _) dTM_rotateRight_59 rfl) rfl ?_
    refine d_st (fun hX _ => g_aload_n 63 1 (hX _) dTM_rotateRight_62 rfl rfl) rfl ?_
    refine d_ifN (fun hX _ => g_acmp_ne 77 66 (hX _) dTM_rotateRight_63 (by decide) rfl) (fun _ => ?_) (fun _ => ?_)
    · refine d_st (fun hX _ => g_aload_n 78 1 (hX _) dTM_rotateRight_77 rfl rfl) rfl ?_
      refine d_g (fun hX _ => e_TM_124 81 (hX _) dTM_rotateRight_78 rfl) rfl ?_
      refine d_st (fun hX _ => g_aload_n 82 2 (hX _) dTM_rotateRight_81 rfl rfl) rfl ?_
      refine d_g (fun hX _ => ur_TM_111 85 (hX _) dTM_rotateRight_82 rfl) rfl ?_
      refine d_klM (fun M4 hM4 => ?_)
      refine d_st (fun hX _ => g_aload_n 86 2 (hX _) dTM_rotateRight_85 rfl rfl) rfl ?_
      refine d_st (fun hX _ => g_aload_n 87 1 (hX _) dTM_rotateRight_86 rfl rfl) rfl ?_
      refine d_g (fun hX _ => ur_TM_114 90 (hX _) dTM_rotateRight_87 rfl) rfl ?_
      refine d_klM (fun M5 hM5 => ?_)
      refine d_st (fun hX _ => g_aload_n 91 1 (hX _) dTM_rotateRight_90 rfl rfl) rfl ?_
      refine d_st (fun hX _ => g_aload_n 92 2 (hX _) dTM_rotateRight_91 rfl rfl) rfl ?_
      refine d_g (fun hX _ => ur_TM_124 95 (hX _) dTM_rotateRight_92 rfl) rfl ?_
      refine d_klM (fun M6 hM6 => ?_)
      exact d_vret rfl rfl dTM_rotateRight_95
    · refine d_st (fun hX _ => g_aload_n 67 1 (hX _) dTM_rotateRight_66 rfl rfl) rfl ?_
      refine d_g (fun hX _ => e_TM_124 70 (hX _) dTM_rotateRight_67 rfl) rfl ?_
      refine d_st (fun hX _ => g_aload_n 71 2 (hX _) dTM_rotateRight_70 rfl rfl) rfl ?_
      refine d_g (fun hX _ => ur_TM_114 74 (hX _) dTM_rotateRight_71 rfl) rfl ?_
      refine d_klM (fun M7 hM7 => ?_)
      refine d_st (fun hX _ => g_goto 85 (hX _) dTM_rotateRight_74 (by decide)) rfl ?_
      refine d_st (fun hX _ => g_aload_n 86 2 (hX _) dTM_rotateRight_85 rfl rfl) rfl ?_
      refine d_st (fun hX _ => g_aload_n 87 1 (hX _) dTM_rotateRight_86 rfl rfl) rfl ?_
      refine d_g (fun hX _ => ur_TM_114 90 (hX _) dTM_rotateRight_87 rfl) rfl ?_
      refine d_klM (fun M8 hM8 => ?_)
      refine d_st (fun hX _ => g_aload_n 91 1 (hX _) dTM_rotateRight_90 rfl rfl) rfl ?_
      refine d_st (fun hX _ => g_aload_n 92 2 (hX _) dTM_rotateRight_91 rfl rfl) rfl ?_
      refine d_g (fun hX _ => ur_TM_124 95 (hX _) dTM_rotateRight_92 rfl) rfl ?_
      refine d_klM (fun M9 hM9 => ?_)
      exact d_vret rfl rfl dTM_rotateRight_95
  · refine d_st (fun hX _ => g_aload_n 48 0 (hX _) dTM_rotateRight_47 rfl rfl) rfl ?_
    refine d_st (fun hX _ => g_aload_n 49 2 (hX _) dTM_rotateRight_48 rfl rfl) rfl ?_
    refine d_g (fun hX _ => ur_TM_101 52 (hX _) dTM_rotateRight_49 rfl) rfl ?_
    refine d_klM (fun M10 hM10 => ?_)
    refine d_st (fun hX _ => g_goto 85 (hX _) dTM_rotateRight_52 (by decide)) rfl ?_
    refine d_st (fun hX _ => g_aload_n 86 2 (hX _) dTM_rotateRight_85 rfl rfl) rfl ?_
    refine d_st (fun hX _ => g_aload_n 87 1 (hX _) dTM_rotateRight_86 rfl rfl) rfl ?_
    refine d_g (fun hX _ => ur_TM_114 90 (hX _) dTM_rotateRight_87 rfl) rfl ?_
    refine d_klM (fun M11 hM11 => ?_)
    refine d_st (fun hX _ => g_aload_n 91 1 (hX _) dTM_rotateRight_90 rfl rfl) rfl ?_
    refine d_st (fun hX _ => g_aload_n 92 2 (hX _) dTM_rotateRight_91 rfl rfl) rfl ?_
    refine d_g (fun hX _ => ur_TM_124 95 (hX _) dTM_rotateRight_92 rfl) rfl ?_
    refine d_klM (fun M12 hM12 => ?_)
    exact d_vret rfl rfl dTM_rotateRight_95
set_option maxRecDepth 100000 in
set_option maxHeartbeats 4000000 in
theorem k_TM_rotateRight (l : Launch) (g : kG) (N : Nat) (M : kMem) (a0 : Nat) (a1 : Nat) : kMetD l g yTM_rotateRight cTM_rotateRight 3 none 2 [.ref a0, .ref a1] M (fun r : kMem => (none, r)) (F_TM_rotateRight N M a0 a1) := by
  refine k_ofD (lv := [(0, .ref a0), (1, .ref a1)]) RTM (by decide) rfl rfl (Nat.le_of_ble_eq_true rfl) ?_
  unfold F_TM_rotateRight
  refine d_st (fun hX _ => g_aload_n 1 1 (hX _) dTM_rotateRight_0 rfl rfl) rfl ?_
  refine d_if (fun hX _ => g_ifnull 95 4 (hX _) dTM_rotateRight_1 (by decide) rfl) (fun _ => ?_) (fun _ => ?_)
  · exact d_vret rfl rfl dTM_rotateRight_95
  · refine d_st (fun hX _ => g_aload_n 5 1 (hX _) dTM_rotateRight_4 rfl rfl) rfl ?_
    refine d_g (fun hX _ => e_TM_111 8 (hX _) dTM_rotateRight_5 rfl) rfl ?_
    refine d_klR (fun w1 hw1 => ?_)
    refine d_st (fun hX _ => g_astore_n 9 2 [(2, .ref w1), (0, .ref a0), (1, .ref a1)] (hX _) dTM_rotateRight_8 rfl rfl (Nat.le_of_ble_eq_true rfl) rfl) rfl ?_
    refine d_st (fun hX _ => g_aload_n 10 2 (hX _) dTM_rotateRight_9 rfl rfl) rfl ?_
    refine d_st (fun hX _ => g_aload_n 11 0 (hX _) dTM_rotateRight_10 rfl rfl) rfl ?_
    refine d_g (fun hX _ => e_TM_114 14 (hX _) dTM_rotateRight_11 rfl) rfl ?_
    refine d_g (fun hX _ => ur_TM_111 17 (hX _) dTM_rotateRight_14 rfl) rfl ?_
    refine d_klM (fun M2 hM2 => ?_)
    refine d_st (fun hX _ => g_aload_n 18 0 (hX _) dTM_rotateRight_17 rfl rfl) rfl ?_
    refine d_g (fun hX _ => e_TM_114 21 (hX _) dTM_rotateRight_18 rfl) rfl ?_
    refine d_if (fun hX _ => g_ifnull 32 24 (hX _) dTM_rotateRight_21 (by decide) rfl) (fun _ => ?_) (fun _ => ?_)
    · refine d_st (fun hX _ => g_lv [1, 2, 0] rfl) rfl ?_
      exact k_TM_rotateRight_32 N M2 a0 a1 w1
    · refine d_st (fun hX _ => g_aload_n 25 0 (hX _) dTM_rotateRight_24 rfl rfl) rfl ?_
      refine d_g (fun hX _ => e_TM_114 28 (hX _) dTM_rotateRight_25 rfl) rfl ?_
      refine d_st (fun hX _ => g_aload_n 29 2 (hX _) dTM_rotateRight_28 rfl rfl) rfl ?_
      refine d_g (fun hX _ => ur_TM_124 32 (hX _) dTM_rotateRight_29 rfl) rfl ?_
      refine d_klM (fun M13 hM13 => ?_)
      refine d_st (fun hX _ => g_lv [1, 2, 0] rfl) rfl ?_
      exact k_TM_rotateRight_32 N M13 a0 a1 w1
set_option maxRecDepth 100000 in
set_option maxHeartbeats 4000000 in
theorem k_TM_fixAfterInsertion_225 {l : Launch} {g : kG} {L0 : Nat} (N : Nat) (k5 : kMem → Nat → Nat → Option (kMem)) (h5 : ∀ (M : kMem) (a0 : Nat) (a1 : Nat), GD (l, cTM_fixAfterInsertion, 3, RTM, g, 3, L0, none, yTM_fixAfterInsertion.name) (fun r : kMem => (none, r)) (k5 M a0 a1) 5 [(0, .ref a0), (1, .ref a1)] [] M) : ∀ (M : kMem) (a0 : Nat) (a1 : Nat), GD (l, cTM_fixAfterInsertion, 3, RTM, g, 3, L0, none, yTM_fixAfterInsertion.name) (fun r : kMem => (none, r)) (F_TM_fixAfterInsertion_225 N k5 M a0 a1) 225 [(0, .ref a0), (1, .ref a1)] [] M := by
  intro M a0 a1
  unfold F_TM_fixAfterInsertion_225
  refine d_st (fun hX _ => g_aload_n 226 1 (hX _) dTM_fixAfterInsertion_225 rfl rfl) rfl ?_
  refine d_callS 229 (k_TM_parentOf l g N M a1) lk_TM_parentOf q_1405 (by decide) rfl (Nat.le_of_ble_eq_true rfl) dTM_fixAfterInsertion_226 rfl (fun r15 _ => ?_)
  show GD _ _ _ _ _ [.ref r15] M
  refine d_st (fun hX _ => g_iconst 230 (hX _) 1 dTM_fixAfterInsertion_229 rfl kc_i_1) rfl ?_
  refine d_callS 233 (k_TM_setColor l g N M r15 1) lk_TM_setColor q_1417 (by decide) rfl (Nat.le_of_ble_eq_true rfl) dTM_fixAfterInsertion_230 rfl (fun r16 _ => ?_)
  show GD _ _ _ _ _ [] r16
  refine d_st (fun hX _ => g_aload_n 234 1 (hX _) dTM_fixAfterInsertion_233 rfl rfl) rfl ?_
  refine d_callS 237 (k_TM_parentOf l g N r16 a1) lk_TM_parentOf q_1405 (by decide) rfl (Nat.le_of_ble_eq_true rfl) dTM_fixAfterInsertion_234 rfl (fun r17 _ => ?_)
  show GD _ _ _ _ _ [.ref r17] r16
  refine d_callS 240 (k_TM_parentOf l g N r16 r17) lk_TM_parentOf q_1405 (by decide) rfl (Nat.le_of_ble_eq_true rfl) dTM_fixAfterInsertion_237 rfl (fun r18 _ => ?_)
  show GD _ _ _ _ _ [.ref r18] r16
  refine d_st (fun hX _ => g_iconst 241 (hX _) 0 dTM_fixAfterInsertion_240 rfl kc_i_0) rfl ?_
  refine d_callS 244 (k_TM_setColor l g N r16 r18 0) lk_TM_setColor q_1417 (by decide) rfl (Nat.le_of_ble_eq_true rfl) dTM_fixAfterInsertion_241 rfl (fun r19 _ => ?_)
  show GD _ _ _ _ _ [] r19
  refine d_st (fun hX _ => g_aload_n 245 0 (hX _) dTM_fixAfterInsertion_244 rfl rfl) rfl ?_
  refine d_st (fun hX _ => g_aload_n 246 1 (hX _) dTM_fixAfterInsertion_245 rfl rfl) rfl ?_
  refine d_callS 249 (k_TM_parentOf l g N r19 a1) lk_TM_parentOf q_1405 (by decide) rfl (Nat.le_of_ble_eq_true rfl) dTM_fixAfterInsertion_246 rfl (fun r20 _ => ?_)
  show GD _ _ _ _ _ [.ref r20, .ref a0] r19
  refine d_callS 252 (k_TM_parentOf l g N r19 r20) lk_TM_parentOf q_1405 (by decide) rfl (Nat.le_of_ble_eq_true rfl) dTM_fixAfterInsertion_249 rfl (fun r21 _ => ?_)
  show GD _ _ _ _ _ [.ref r21, .ref a0] r19
  refine d_callV 255 (k_TM_rotateLeft l g N r19 a0 r21) lk_TM_rotateLeft (ci := 34) (T := TTM) (N := 9) rfl (Nat.le_of_ble_eq_true rfl) q_1420 (fun s args ht => ht _ q_14) (by decide) rfl (Nat.le_of_ble_eq_true rfl) dTM_fixAfterInsertion_252 rfl (fun r22 _ => ?_)
  show GD _ _ _ _ _ [] r22
  refine d_st (fun hX _ => g_goto 5 (hX _) dTM_fixAfterInsertion_255 (by decide)) rfl ?_
  exact h5 r22 a0 a1
set_option maxRecDepth 100000 in
set_option maxHeartbeats 4000000 in
theorem k_TM_fixAfterInsertion_118 {l : Launch} {g : kG} {L0 : Nat} (N : Nat) (k5 : kMem → Nat → Nat → Option (kMem)) (h5 : ∀ (M : kMem) (a0 : Nat) (a1 : Nat), GD (l, cTM_fixAfterInsertion, 3, RTM, g, 3, L0, none, yTM_fixAfterInsertion.name) (fun r : kMem => (none, r)) (k5 M a0 a1) 5 [(0, .ref a0), (1, .ref a1)] [] M) : ∀ (M : kMem) (a0 : Nat) (a1 : Nat), GD (l, cTM_fixAfterInsertion, 3, RTM, g, 3, L0, none, yTM_fixAfterInsertion.name) (fun r : kMem => (none, r)) (F_TM_fixAfterInsertion_118 N k5 M a0 a1) 118 [(0, .ref a0), (1, .ref a1)] [] M := by
  intro M a0 a1
  unfold F_TM_fixAfterInsertion_118
  refine d_st (fun hX _ => g_aload_n 119 1 (hX _) dTM_fixAfterInsertion_118 rfl rfl) rfl ?_
  refine d_callS 122 (k_TM_parentOf l g N M a1) lk_TM_parentOf q_1405 (by decide) rfl (Nat.le_of_ble_eq_true rfl) dTM_fixAfterInsertion_119 rfl (fun r39 _ => ?_)
  show GD _ _ _ _ _ [.ref r39] M
  refine d_st (fun hX _ => g_iconst 123 (hX _) 1 dTM_fixAfterInsertion_122 rfl kc_i_1) rfl ?_
  refine d_callS 126 (k_TM_setColor l g N M r39 1) lk_TM_setColor q_1417 (by decide) rfl (Nat.le_of_ble_eq_true rfl) dTM_fixAfterInsertion_123 rfl (fun r40 _ => ?_)
  show GD _ _ _ _ _ [] r40
  refine d_st (fun hX _ => g_aload_n 127 1 (hX _) dTM_fixAfterInsertion_126 rfl rfl) rfl ?_
  refine d_callS 130 (k_TM_parentOf l g N r40 a1) lk_TM_parentOf q_1405 (by decide) rfl (Nat.le_of_ble_eq_true rfl) dTM_fixAfterInsertion_127 rfl (fun r41 _ => ?_)
  show GD _ _ _ _ _ [.ref r41] r40
  refine d_callS 133 (k_TM_parentOf l g N r40 r41) lk_TM_parentOf q_1405 (by decide) rfl (Nat.le_of_ble_eq_true rfl) dTM_fixAfterInsertion_130 rfl (fun r42 _ => ?_)
  show GD _ _ _ _ _ [.ref r42] r40
  refine d_st (fun hX _ => g_iconst 134 (hX _) 0 dTM_fixAfterInsertion_133 rfl kc_i_0) rfl ?_
  refine d_callS 137 (k_TM_setColor l g N r40 r42 0) lk_TM_setColor q_1417 (by decide) rfl (Nat.le_of_ble_eq_true rfl) dTM_fixAfterInsertion_134 rfl (fun r43 _ => ?_)
  show GD _ _ _ _ _ [] r43
  refine d_st (fun hX _ => g_aload_n 138 0 (hX _) dTM_fixAfterInsertion_137 rfl rfl) rfl ?_
  refine d_st (fun hX _ => g_aload_n 139 1 (hX _) dTM_fixAfterInsertion_138 rfl rfl) rfl ?_
  refine d_callS 142 (k_TM_parentOf l g N r43 a1) lk_TM_parentOf q_1405 (by decide) rfl (Nat.le_of_ble_eq_true rfl) dTM_fixAfterInsertion_139 rfl (fun r44 _ => ?_)
  show GD _ _ _ _ _ [.ref r44, .ref a0] r43
  refine d_callS 145 (k_TM_parentOf l g N r43 r44) lk_TM_parentOf q_1405 (by decide) rfl (Nat.le_of_ble_eq_true rfl) dTM_fixAfterInsertion_142 rfl (fun r45 _ => ?_)
  show GD _ _ _ _ _ [.ref r45, .ref a0] r43
  refine d_callV 148 (k_TM_rotateRight l g N r43 a0 r45) lk_TM_rotateRight (ci := 34) (T := TTM) (N := 9) rfl (Nat.le_of_ble_eq_true rfl) q_1424 (fun s args ht => ht _ q_15) (by decide) rfl (Nat.le_of_ble_eq_true rfl) dTM_fixAfterInsertion_145 rfl (fun r46 _ => ?_)
  show GD _ _ _ _ _ [] r46
  refine d_st (fun hX _ => g_goto 5 (hX _) dTM_fixAfterInsertion_148 (by decide)) rfl ?_
  exact h5 r46 a0 a1
set_option maxRecDepth 100000 in
set_option maxHeartbeats 4000000 in
theorem k_TM_fixAfterInsertion_5 {l : Launch} {g : kG} {L0 : Nat} (N : Nat) : ∀ (n : Nat) (M : kMem) (a0 : Nat) (a1 : Nat), GD (l, cTM_fixAfterInsertion, 3, RTM, g, 3, L0, none, yTM_fixAfterInsertion.name) (fun r : kMem => (none, r)) (F_TM_fixAfterInsertion_5 N n M a0 a1) 5 [(0, .ref a0), (1, .ref a1)] [] M := by
  intro n
  induction n with
  | zero => intro _ _ _; exact d_none
  | succ n ih =>
    intro M a0 a1
    unfold F_TM_fixAfterInsertion_5
    refine d_st (fun hX _ => g_aload_n 6 1 (hX _) dTM_fixAfterInsertion_5 rfl rfl) rfl ?_
    refine d_if (fun hX _ => g_ifnull 258 9 (hX _) dTM_fixAfterInsertion_6 (by decide) rfl) (fun _ => ?_) (fun _ => ?_)
    · refine d_st (fun hX _ => g_aload_n 259 0 (hX _) dTM_fixAfterInsertion_258 rfl rfl) rfl ?_
      refine d_g (fun hX _ => e_TM_101 262 (hX _) dTM_fixAfterInsertion_259 rfl) rfl ?_
      refine d_st (fun hX _ => g_iconst 263 (hX _) 1 dTM_fixAfterInsertion_262 rfl kc_i_1) rfl ?_
      refine d_g (fun hX _ => uz_TM_290 266 (hX _) dTM_fixAfterInsertion_263 rfl) rfl ?_
      refine d_klM (fun M2 hM2 => ?_)
      exact d_vret rfl rfl dTM_fixAfterInsertion_266
    · refine d_st (fun hX _ => g_aload_n 10 1 (hX _) dTM_fixAfterInsertion_9 rfl rfl) rfl ?_
      refine d_st (fun hX _ => g_aload_n 11 0 (hX _) dTM_fixAfterInsertion_10 rfl rfl) rfl ?_
      refine d_g (fun hX _ => e_TM_101 14 (hX _) dTM_fixAfterInsertion_11 rfl) rfl ?_
      refine d_if (fun hX _ => g_acmp_eq 258 17 (hX _) dTM_fixAfterInsertion_14 (by decide) rfl) (fun _ => ?_) (fun _ => ?_)
      · refine d_st (fun hX _ => g_aload_n 259 0 (hX _) dTM_fixAfterInsertion_258 rfl rfl) rfl ?_
        refine d_g (fun hX _ => e_TM_101 262 (hX _) dTM_fixAfterInsertion_259 rfl) rfl ?_
        refine d_st (fun hX _ => g_iconst 263 (hX _) 1 dTM_fixAfterInsertion_262 rfl kc_i_1) rfl ?_
        refine d_g (fun hX _ => uz_TM_290 266 (hX _) dTM_fixAfterInsertion_263 rfl) rfl ?_
        refine d_klM (fun M3 hM3 => ?_)
        exact d_vret rfl rfl dTM_fixAfterInsertion_266
      · refine d_st (fun hX _ => g_aload_n 18 1 (hX _) dTM_fixAfterInsertion_17 rfl rfl) rfl ?_
        refine d_g (fun hX _ => e_TM_124 21 (hX _) dTM_fixAfterInsertion_18 rfl) rfl ?_
        refine d_g (fun hX _ => e_TM_290 24 (hX _) dTM_fixAfterInsertion_21 rfl) rfl ?_
        refine d_ifN (fun hX _ => g_if_ne 258 27 (hX _) dTM_fixAfterInsertion_24 (by decide) rfl) (fun _ => ?_) (fun _ => ?_)
        · refine d_st (fun hX _ => g_aload_n 259 0 (hX _) dTM_fixAfterInsertion_258 rfl rfl) rfl ?_
          refine d_g (fun hX _ => e_TM_101 262 (hX _) dTM_fixAfterInsertion_259 rfl) rfl ?_
          refine d_st (fun hX _ => g_iconst 263 (hX _) 1 dTM_fixAfterInsertion_262 rfl kc_i_1) rfl ?_
          refine d_g (fun hX _ => uz_TM_290 266 (hX _) dTM_fixAfterInsertion_263 rfl) rfl ?_
          refine d_klM (fun M4 hM4 => ?_)
          exact d_vret rfl rfl dTM_fixAfterInsertion_266
        · refine d_st (fun hX _ => g_aload_n 28 1 (hX _) dTM_fixAfterInsertion_27 rfl rfl) rfl ?_
          refine d_callS 31 (k_TM_parentOf l g N M a1) lk_TM_parentOf q_1405 (by decide) rfl (Nat.le_of_ble_eq_true rfl) dTM_fixAfterInsertion_28 rfl (fun r5 _ => ?_)
          show GD _ _ _ _ _ [.ref r5] M
          refine d_st (fun hX _ => g_aload_n 32 1 (hX _) dTM_fixAfterInsertion_31 rfl rfl) rfl ?_
          refine d_callS 35 (k_TM_parentOf l g N M a1) lk_TM_parentOf q_1405 (by decide) rfl (Nat.le_of_ble_eq_true rfl) dTM_fixAfterInsertion_32 rfl (fun r6 _ => ?_)
          show GD _ _ _ _ _ [.ref r6, .ref r5] M
          refine d_callS 38 (k_TM_parentOf l g N M r6) lk_TM_parentOf q_1405 (by decide) rfl (Nat.le_of_ble_eq_true rfl) dTM_fixAfterInsertion_35 rfl (fun r7 _ => ?_)
          show GD _ _ _ _ _ [.ref r7, .ref r5] M
          refine d_callS 41 (k_TM_leftOf l g N M r7) lk_TM_leftOf q_1408 (by decide) rfl (Nat.le_of_ble_eq_true rfl) dTM_fixAfterInsertion_38 rfl (fun r8 _ => ?_)
          show GD _ _ _ _ _ [.ref r8, .ref r5] M
          refine d_ifN (fun hX _ => g_acmp_ne 151 44 (hX _) dTM_fixAfterInsertion_41 (by decide) rfl) (fun _ => ?_) (fun _ => ?_)
          · refine d_st (fun hX _ => g_aload_n 152 1 (hX _) dTM_fixAfterInsertion_151 rfl rfl) rfl ?_
            refine d_callS 155 (k_TM_parentOf l g N M a1) lk_TM_parentOf q_1405 (by decide) rfl (Nat.le_of_ble_eq_true rfl) dTM_fixAfterInsertion_152 rfl (fun r9 _ => ?_)
            show GD _ _ _ _ _ [.ref r9] M
            refine d_callS 158 (k_TM_parentOf l g N M r9) lk_TM_parentOf q_1405 (by decide) rfl (Nat.le_of_ble_eq_true rfl) dTM_fixAfterInsertion_155 rfl (fun r10 _ => ?_)
            show GD _ _ _ _ _ [.ref r10] M
            refine d_callS 161 (k_TM_leftOf l g N M r10) lk_TM_leftOf q_1408 (by decide) rfl (Nat.le_of_ble_eq_true rfl) dTM_fixAfterInsertion_158 rfl (fun r11 _ => ?_)
            show GD _ _ _ _ _ [.ref r11] M
            refine d_st (fun hX _ => g_astore_n 162 2 [(2, .ref r11), (0, .ref a0), (1, .ref a1)] (hX _) dTM_fixAfterInsertion_161 rfl rfl (Nat.le_of_ble_eq_true rfl) rfl) rfl ?_
            refine d_st (fun hX _ => g_aload_n 163 0 (hX _) dTM_fixAfterInsertion_162 rfl rfl) rfl ?_
            refine d_callS 166 (k_TM_colorOf l g N M r11) lk_TM_colorOf q_1414 (by decide) rfl (Nat.le_of_ble_eq_true rfl) dTM_fixAfterInsertion_163 rfl (fun r12 _ => ?_)
            show GD _ _ _ _ _ [.int r12] M
            refine d_ifN (fun hX _ => g_if_ne 204 169 (hX _) dTM_fixAfterInsertion_166 (by decide) rfl) (fun _ => ?_) (fun _ => ?_)
            · refine d_st (fun hX _ => g_aload_n 205 2 (hX _) dTM_fixAfterInsertion_204 rfl rfl) rfl ?_
              refine d_st (fun hX _ => g_aload_n 206 2 (hX _) dTM_fixAfterInsertion_205 rfl rfl) rfl ?_
              refine d_callS 209 (k_TM_parentOf l g N M a1) lk_TM_parentOf q_1405 (by decide) rfl (Nat.le_of_ble_eq_true rfl) dTM_fixAfterInsertion_206 rfl (fun r13 _ => ?_)
              show GD _ _ _ _ _ [.ref r13, .ref a1] M
              refine d_callS 212 (k_TM_leftOf l g N M r13) lk_TM_leftOf q_1408 (by decide) rfl (Nat.le_of_ble_eq_true rfl) dTM_fixAfterInsertion_209 rfl (fun r14 _ => ?_)
              show GD _ _ _ _ _ [.ref r14, .ref a1] M
              refine d_ifN (fun hX _ => g_acmp_ne 225 215 (hX _) dTM_fixAfterInsertion_212 (by decide) rfl) (fun _ => ?_) (fun _ => ?_)
              · refine d_st (fun hX _ => g_lv [1, 2] rfl) rfl ?_
                exact k_TM_fixAfterInsertion_225 N (fun M a0 a1 => F_TM_fixAfterInsertion_5 N n M a0 a1) ih M a0 a1
              · refine d_st (fun hX _ => g_aload_n 216 2 (hX _) dTM_fixAfterInsertion_215 rfl rfl) rfl ?_
                refine d_callS 219 (k_TM_parentOf l g N M a1) lk_TM_parentOf q_1405 (by decide) rfl (Nat.le_of_ble_eq_true rfl) dTM_fixAfterInsertion_216 rfl (fun r23 _ => ?_)
                show GD _ _ _ _ _ [.ref r23] M
                refine d_st (fun hX _ => g_astore_n 220 1 [(1, .ref r23), (2, .ref r11), (0, .ref a0)] (hX _) dTM_fixAfterInsertion_219 rfl rfl (Nat.le_of_ble_eq_true rfl) rfl) rfl ?_
                refine d_st (fun hX _ => g_aload_n 221 2 (hX _) dTM_fixAfterInsertion_220 rfl rfl) rfl ?_
                refine d_st (fun hX _ => g_aload_n 222 0 (hX _) dTM_fixAfterInsertion_221 rfl rfl) rfl ?_
                refine d_callV 225 (k_TM_rotateRight l g N M a0 r23) lk_TM_rotateRight (ci := 34) (T := TTM) (N := 9) rfl (Nat.le_of_ble_eq_true rfl) q_1424 (fun s args ht => ht _ q_15) (by decide) rfl (Nat.le_of_ble_eq_true rfl) dTM_fixAfterInsertion_222 rfl (fun r24 _ => ?_)
                show GD _ _ _ _ _ [] r24
                refine d_st (fun hX _ => g_lv [2, 0] rfl) rfl ?_
                exact k_TM_fixAfterInsertion_225 N (fun M a0 a1 => F_TM_fixAfterInsertion_5 N n M a0 a1) ih r24 a0 r23
            · refine d_st (fun hX _ => g_aload_n 170 2 (hX _) dTM_fixAfterInsertion_169 rfl rfl) rfl ?_
              refine d_callS 173 (k_TM_parentOf l g N M a1) lk_TM_parentOf q_1405 (by decide) rfl (Nat.le_of_ble_eq_true rfl) dTM_fixAfterInsertion_170 rfl (fun r25 _ => ?_)
              show GD _ _ _ _ _ [.ref r25] M
              refine d_st (fun hX _ => g_iconst 174 (hX _) 1 dTM_fixAfterInsertion_173 rfl kc_i_1) rfl ?_
              refine d_callS 177 (k_TM_setColor l g N M r25 1) lk_TM_setColor q_1417 (by decide) rfl (Nat.le_of_ble_eq_true rfl) dTM_fixAfterInsertion_174 rfl (fun r26 _ => ?_)
              show GD _ _ _ _ _ [] r26
              refine d_st (fun hX _ => g_aload_n 178 0 (hX _) dTM_fixAfterInsertion_177 rfl rfl) rfl ?_
              refine d_st (fun hX _ => g_iconst 179 (hX _) 1 dTM_fixAfterInsertion_178 rfl kc_i_1) rfl ?_
              refine d_callS 182 (k_TM_setColor l g N r26 r11 1) lk_TM_setColor q_1417 (by decide) rfl (Nat.le_of_ble_eq_true rfl) dTM_fixAfterInsertion_179 rfl (fun r27 _ => ?_)
              show GD _ _ _ _ _ [] r27
              refine d_st (fun hX _ => g_aload_n 183 2 (hX _) dTM_fixAfterInsertion_182 rfl rfl) rfl ?_
              refine d_callS 186 (k_TM_parentOf l g N r27 a1) lk_TM_parentOf q_1405 (by decide) rfl (Nat.le_of_ble_eq_true rfl) dTM_fixAfterInsertion_183 rfl (fun r28 _ => ?_)
              show GD _ _ _ _ _ [.ref r28] r27
              refine d_callS 189 (k_TM_parentOf l g N r27 r28) lk_TM_parentOf q_1405 (by decide) rfl (Nat.le_of_ble_eq_true rfl) dTM_fixAfterInsertion_186 rfl (fun r29 _ => ?_)
              show GD _ _ _ _ _ [.ref r29] r27
              refine d_st (fun hX _ => g_iconst 190 (hX _) 0 dTM_fixAfterInsertion_189 rfl kc_i_0) rfl ?_
              refine d_callS 193 (k_TM_setColor l g N r27 r29 0) lk_TM_setColor q_1417 (by decide) rfl (Nat.le_of_ble_eq_true rfl) dTM_fixAfterInsertion_190 rfl (fun r30 _ => ?_)
              show GD _ _ _ _ _ [] r30
              refine d_st (fun hX _ => g_aload_n 194 2 (hX _) dTM_fixAfterInsertion_193 rfl rfl) rfl ?_
              refine d_callS 197 (k_TM_parentOf l g N r30 a1) lk_TM_parentOf q_1405 (by decide) rfl (Nat.le_of_ble_eq_true rfl) dTM_fixAfterInsertion_194 rfl (fun r31 _ => ?_)
              show GD _ _ _ _ _ [.ref r31] r30
              refine d_callS 200 (k_TM_parentOf l g N r30 r31) lk_TM_parentOf q_1405 (by decide) rfl (Nat.le_of_ble_eq_true rfl) dTM_fixAfterInsertion_197 rfl (fun r32 _ => ?_)
              show GD _ _ _ _ _ [.ref r32] r30
              refine d_st (fun hX _ => g_astore_n 201 1 [(1, .ref r32), (2, .ref r11), (0, .ref a0)] (hX _) dTM_fixAfterInsertion_200 rfl rfl (Nat.le_of_ble_eq_true rfl) rfl) rfl ?_
              refine d_st (fun hX _ => g_goto 255 (hX _) dTM_fixAfterInsertion_201 (by decide)) rfl ?_
              refine d_st (fun hX _ => g_goto 5 (hX _) dTM_fixAfterInsertion_255 (by decide)) rfl ?_
              refine d_st (fun hX _ => g_lv [2, 0] rfl) rfl ?_
              exact ih r30 a0 r32
          · refine d_st (fun hX _ => g_aload_n 45 1 (hX _) dTM_fixAfterInsertion_44 rfl rfl) rfl ?_
            refine d_callS 48 (k_TM_parentOf l g N M a1) lk_TM_parentOf q_1405 (by decide) rfl (Nat.le_of_ble_eq_true rfl) dTM_fixAfterInsertion_45 rfl (fun r33 _ => ?_)
            show GD _ _ _ _ _ [.ref r33] M
            refine d_callS 51 (k_TM_parentOf l g N M r33) lk_TM_parentOf q_1405 (by decide) rfl (Nat.le_of_ble_eq_true rfl) dTM_fixAfterInsertion_48 rfl (fun r34 _ => ?_)
            show GD _ _ _ _ _ [.ref r34] M
            refine d_callS 54 (k_TM_rightOf l g N M r34) lk_TM_rightOf q_1411 (by decide) rfl (Nat.le_of_ble_eq_true rfl) dTM_fixAfterInsertion_51 rfl (fun r35 _ => ?_)
            show GD _ _ _ _ _ [.ref r35] M
            refine d_st (fun hX _ => g_astore_n 55 2 [(2, .ref r35), (0, .ref a0), (1, .ref a1)] (hX _) dTM_fixAfterInsertion_54 rfl rfl (Nat.le_of_ble_eq_true rfl) rfl) rfl ?_
            refine d_st (fun hX _ => g_aload_n 56 0 (hX _) dTM_fixAfterInsertion_55 rfl rfl) rfl ?_
            refine d_callS 59 (k_TM_colorOf l g N M r35) lk_TM_colorOf q_1414 (by decide) rfl (Nat.le_of_ble_eq_true rfl) dTM_fixAfterInsertion_56 rfl (fun r36 _ => ?_)
            show GD _ _ _ _ _ [.int r36] M
            refine d_ifN (fun hX _ => g_if_ne 97 62 (hX _) dTM_fixAfterInsertion_59 (by decide) rfl) (fun _ => ?_) (fun _ => ?_)
            · refine d_st (fun hX _ => g_aload_n 98 2 (hX _) dTM_fixAfterInsertion_97 rfl rfl) rfl ?_
              refine d_st (fun hX _ => g_aload_n 99 2 (hX _) dTM_fixAfterInsertion_98 rfl rfl) rfl ?_
              refine d_callS 102 (k_TM_parentOf l g N M a1) lk_TM_parentOf q_1405 (by decide) rfl (Nat.le_of_ble_eq_true rfl) dTM_fixAfterInsertion_99 rfl (fun r37 _ => ?_)
              show GD _ _ _ _ _ [.ref r37, .ref a1] M
              refine d_callS 105 (k_TM_rightOf l g N M r37) lk_TM_rightOf q_1411 (by decide) rfl (Nat.le_of_ble_eq_true rfl) dTM_fixAfterInsertion_102 rfl (fun r38 _ => ?_)
              show GD _ _ _ _ _ [.ref r38, .ref a1] M
              refine d_ifN (fun hX _ => g_acmp_ne 118 108 (hX _) dTM_fixAfterInsertion_105 (by decide) rfl) (fun _ => ?_) (fun _ => ?_)
              · refine d_st (fun hX _ => g_lv [1, 2] rfl) rfl ?_
                exact k_TM_fixAfterInsertion_118 N (fun M a0 a1 => F_TM_fixAfterInsertion_5 N n M a0 a1) ih M a0 a1
              · refine d_st (fun hX _ => g_aload_n 109 2 (hX _) dTM_fixAfterInsertion_108 rfl rfl) rfl ?_
                refine d_callS 112 (k_TM_parentOf l g N M a1) lk_TM_parentOf q_1405 (by decide) rfl (Nat.le_of_ble_eq_true rfl) dTM_fixAfterInsertion_109 rfl (fun r47 _ => ?_)
                show GD _ _ _ _ _ [.ref r47] M
                refine d_st (fun hX _ => g_astore_n 113 1 [(1, .ref r47), (2, .ref r35), (0, .ref a0)] (hX _) dTM_fixAfterInsertion_112 rfl rfl (Nat.le_of_ble_eq_true rfl) rfl) rfl ?_
                refine d_st (fun hX _ => g_aload_n 114 2 (hX _) dTM_fixAfterInsertion_113 rfl rfl) rfl ?_
                refine d_st (fun hX _ => g_aload_n 115 0 (hX _) dTM_fixAfterInsertion_114 rfl rfl) rfl ?_
                refine d_callV 118 (k_TM_rotateLeft l g N M a0 r47) lk_TM_rotateLeft (ci := 34) (T := TTM) (N := 9) rfl (Nat.le_of_ble_eq_true rfl) q_1420 (fun s args ht => ht _ q_14) (by decide) rfl (Nat.le_of_ble_eq_true rfl) dTM_fixAfterInsertion_115 rfl (fun r48 _ => ?_)
                show GD _ _ _ _ _ [] r48
                refine d_st (fun hX _ => g_lv [2, 0] rfl) rfl ?_
                exact k_TM_fixAfterInsertion_118 N (fun M a0 a1 => F_TM_fixAfterInsertion_5 N n M a0 a1) ih r48 a0 r47
            · refine d_st (fun hX _ => g_aload_n 63 2 (hX _) dTM_fixAfterInsertion_62 rfl rfl) rfl ?_
              refine d_callS 66 (k_TM_parentOf l g N M a1) lk_TM_parentOf q_1405 (by decide) rfl (Nat.le_of_ble_eq_true rfl) dTM_fixAfterInsertion_63 rfl (fun r49 _ => ?_)
              show GD _ _ _ _ _ [.ref r49] M
              refine d_st (fun hX _ => g_iconst 67 (hX _) 1 dTM_fixAfterInsertion_66 rfl kc_i_1) rfl ?_
              refine d_callS 70 (k_TM_setColor l g N M r49 1) lk_TM_setColor q_1417 (by decide) rfl (Nat.le_of_ble_eq_true rfl) dTM_fixAfterInsertion_67 rfl (fun r50 _ => ?_)
              show GD _ _ _ _ _ [] r50
              refine d_st (fun hX _ => g_aload_n 71 0 (hX _) dTM_fixAfterInsertion_70 rfl rfl) rfl ?_
              refine d_st (fun hX _ => g_iconst 72 (hX _) 1 dTM_fixAfterInsertion_71 rfl kc_i_1) rfl ?_
              refine d_callS 75 (k_TM_setColor l g N r50 r35 1) lk_TM_setColor q_1417 (by decide) rfl (Nat.le_of_ble_eq_true rfl) dTM_fixAfterInsertion_72 rfl (fun r51 _ => ?_)
              show GD _ _ _ _ _ [] r51
              refine d_st (fun hX _ => g_aload_n 76 2 (hX _) dTM_fixAfterInsertion_75 rfl rfl) rfl ?_
              refine d_callS 79 (k_TM_parentOf l g N r51 a1) lk_TM_parentOf q_1405 (by decide) rfl (Nat.le_of_ble_eq_true rfl) dTM_fixAfterInsertion_76 rfl (fun r52 _ => ?_)
              show GD _ _ _ _ _ [.ref r52] r51
              refine d_callS 82 (k_TM_parentOf l g N r51 r52) lk_TM_parentOf q_1405 (by decide) rfl (Nat.le_of_ble_eq_true rfl) dTM_fixAfterInsertion_79 rfl (fun r53 _ => ?_)
              show GD _ _ _ _ _ [.ref r53] r51
              refine d_st (fun hX _ => g_iconst 83 (hX _) 0 dTM_fixAfterInsertion_82 rfl kc_i_0) rfl ?_
              refine d_callS 86 (k_TM_setColor l g N r51 r53 0) lk_TM_setColor q_1417 (by decide) rfl (Nat.le_of_ble_eq_true rfl) dTM_fixAfterInsertion_83 rfl (fun r54 _ => ?_)
              show GD _ _ _ _ _ [] r54
              refine d_st (fun hX _ => g_aload_n 87 2 (hX _) dTM_fixAfterInsertion_86 rfl rfl) rfl ?_
              refine d_callS 90 (k_TM_parentOf l g N r54 a1) lk_TM_parentOf q_1405 (by decide) rfl (Nat.le_of_ble_eq_true rfl) dTM_fixAfterInsertion_87 rfl (fun r55 _ => ?_)
              show GD _ _ _ _ _ [.ref r55] r54
              refine d_callS 93 (k_TM_parentOf l g N r54 r55) lk_TM_parentOf q_1405 (by decide) rfl (Nat.le_of_ble_eq_true rfl) dTM_fixAfterInsertion_90 rfl (fun r56 _ => ?_)
              show GD _ _ _ _ _ [.ref r56] r54
              refine d_st (fun hX _ => g_astore_n 94 1 [(1, .ref r56), (2, .ref r35), (0, .ref a0)] (hX _) dTM_fixAfterInsertion_93 rfl rfl (Nat.le_of_ble_eq_true rfl) rfl) rfl ?_
              refine d_st (fun hX _ => g_goto 148 (hX _) dTM_fixAfterInsertion_94 (by decide)) rfl ?_
              refine d_st (fun hX _ => g_goto 5 (hX _) dTM_fixAfterInsertion_148 (by decide)) rfl ?_
              refine d_st (fun hX _ => g_lv [2, 0] rfl) rfl ?_
              exact ih r54 a0 r56
set_option maxRecDepth 100000 in
set_option maxHeartbeats 4000000 in
theorem k_TM_fixAfterInsertion (l : Launch) (g : kG) (N : Nat) (M : kMem) (a0 : Nat) (a1 : Nat) : kMetD l g yTM_fixAfterInsertion cTM_fixAfterInsertion 3 none 3 [.ref a0, .ref a1] M (fun r : kMem => (none, r)) (F_TM_fixAfterInsertion N M a0 a1) := by
  refine k_ofD (lv := [(0, .ref a0), (1, .ref a1)]) RTM (by decide) rfl rfl (Nat.le_of_ble_eq_true rfl) ?_
  unfold F_TM_fixAfterInsertion
  refine d_st (fun hX _ => g_aload_n 1 1 (hX _) dTM_fixAfterInsertion_0 rfl rfl) rfl ?_
  refine d_st (fun hX _ => g_iconst 2 (hX _) 0 dTM_fixAfterInsertion_1 rfl kc_i_0) rfl ?_
  refine d_g (fun hX _ => uz_TM_290 5 (hX _) dTM_fixAfterInsertion_2 rfl) rfl ?_
  refine d_klM (fun M1 hM1 => ?_)
  exact k_TM_fixAfterInsertion_5 N N M1 a0 a1
set_option maxRecDepth 100000 in
set_option maxHeartbeats 4000000 in
theorem k_TM_fixAfterDeletion_302 {l : Launch} {g : kG} {L0 : Nat} (N : Nat) (k0 : kMem → Nat → Nat → Option (kMem)) (h0 : ∀ (M : kMem) (a0 : Nat) (a1 : Nat), GD (l, cTM_fixAfterDeletion, 3, RTM, g, 3, L0, none, yTM_fixAfterDeletion.name) (fun r : kMem => (none, r)) (k0 M a0 a1) 0 [(0, .ref a0), (1, .ref a1)] [] M) : ∀ (M : kMem) (a0 : Nat) (a1 : Nat) (a2 : Nat), GD (l, cTM_fixAfterDeletion, 3, RTM, g, 3, L0, none, yTM_fixAfterDeletion.name) (fun r : kMem => (none, r)) (F_TM_fixAfterDeletion_302 N k0 M a0 a1 a2) 302 [(0, .ref a0), (1, .ref a1), (2, .ref a2)] [] M := by
  intro M a0 a1 a2
  unfold F_TM_fixAfterDeletion_302
  refine d_st (fun hX _ => g_aload_n 303 2 (hX _) dTM_fixAfterDeletion_302 rfl rfl) rfl ?_
  refine d_st (fun hX _ => g_aload_n 304 1 (hX _) dTM_fixAfterDeletion_303 rfl rfl) rfl ?_
  refine d_callS 307 (k_TM_parentOf l g N M a1) lk_TM_parentOf q_1405 (by decide) rfl (Nat.le_of_ble_eq_true rfl) dTM_fixAfterDeletion_304 rfl (fun r13 _ => ?_)
  show GD _ _ _ _ _ [.ref r13, .ref a2] M
  refine d_callS 310 (k_TM_colorOf l g N M r13) lk_TM_colorOf q_1414 (by decide) rfl (Nat.le_of_ble_eq_true rfl) dTM_fixAfterDeletion_307 rfl (fun r14 _ => ?_)
  show GD _ _ _ _ _ [.int r14, .ref a2] M
  refine d_callS 313 (k_TM_setColor l g N M a2 r14) lk_TM_setColor q_1417 (by decide) rfl (Nat.le_of_ble_eq_true rfl) dTM_fixAfterDeletion_310 rfl (fun r15 _ => ?_)
  show GD _ _ _ _ _ [] r15
  refine d_st (fun hX _ => g_aload_n 314 1 (hX _) dTM_fixAfterDeletion_313 rfl rfl) rfl ?_
  refine d_callS 317 (k_TM_parentOf l g N r15 a1) lk_TM_parentOf q_1405 (by decide) rfl (Nat.le_of_ble_eq_true rfl) dTM_fixAfterDeletion_314 rfl (fun r16 _ => ?_)
  show GD _ _ _ _ _ [.ref r16] r15
  refine d_st (fun hX _ => g_iconst 318 (hX _) 1 dTM_fixAfterDeletion_317 rfl kc_i_1) rfl ?_
  refine d_callS 321 (k_TM_setColor l g N r15 r16 1) lk_TM_setColor q_1417 (by decide) rfl (Nat.le_of_ble_eq_true rfl) dTM_fixAfterDeletion_318 rfl (fun r17 _ => ?_)
  show GD _ _ _ _ _ [] r17
  refine d_st (fun hX _ => g_aload_n 322 2 (hX _) dTM_fixAfterDeletion_321 rfl rfl) rfl ?_
  refine d_callS 325 (k_TM_leftOf l g N r17 a2) lk_TM_leftOf q_1408 (by decide) rfl (Nat.le_of_ble_eq_true rfl) dTM_fixAfterDeletion_322 rfl (fun r18 _ => ?_)
  show GD _ _ _ _ _ [.ref r18] r17
  refine d_st (fun hX _ => g_iconst 326 (hX _) 1 dTM_fixAfterDeletion_325 rfl kc_i_1) rfl ?_
  refine d_callS 329 (k_TM_setColor l g N r17 r18 1) lk_TM_setColor q_1417 (by decide) rfl (Nat.le_of_ble_eq_true rfl) dTM_fixAfterDeletion_326 rfl (fun r19 _ => ?_)
  show GD _ _ _ _ _ [] r19
  refine d_st (fun hX _ => g_aload_n 330 0 (hX _) dTM_fixAfterDeletion_329 rfl rfl) rfl ?_
  refine d_st (fun hX _ => g_aload_n 331 1 (hX _) dTM_fixAfterDeletion_330 rfl rfl) rfl ?_
  refine d_callS 334 (k_TM_parentOf l g N r19 a1) lk_TM_parentOf q_1405 (by decide) rfl (Nat.le_of_ble_eq_true rfl) dTM_fixAfterDeletion_331 rfl (fun r20 _ => ?_)
  show GD _ _ _ _ _ [.ref r20, .ref a0] r19
  refine d_callV 337 (k_TM_rotateRight l g N r19 a0 r20) lk_TM_rotateRight (ci := 34) (T := TTM) (N := 9) rfl (Nat.le_of_ble_eq_true rfl) q_1424 (fun s args ht => ht _ q_15) (by decide) rfl (Nat.le_of_ble_eq_true rfl) dTM_fixAfterDeletion_334 rfl (fun r21 _ => ?_)
  show GD _ _ _ _ _ [] r21
  refine d_st (fun hX _ => g_aload_n 338 0 (hX _) dTM_fixAfterDeletion_337 rfl rfl) rfl ?_
  refine d_g (fun hX _ => e_TM_101 341 (hX _) dTM_fixAfterDeletion_338 rfl) rfl ?_
  refine d_klR (fun w22 hw22 => ?_)
  refine d_st (fun hX _ => g_astore_n 342 1 [(1, .ref w22), (0, .ref a0), (2, .ref a2)] (hX _) dTM_fixAfterDeletion_341 rfl rfl (Nat.le_of_ble_eq_true rfl) rfl) rfl ?_
  refine d_st (fun hX _ => g_goto 0 (hX _) dTM_fixAfterDeletion_342 (by decide)) rfl ?_
  refine d_st (fun hX _ => g_lv [1, 0] rfl) rfl ?_
  exact h0 r21 a0 w22
set_option maxRecDepth 100000 in
set_option maxHeartbeats 4000000 in
theorem k_TM_fixAfterDeletion_265 {l : Launch} {g : kG} {L0 : Nat} (N : Nat) (k0 : kMem → Nat → Nat → Option (kMem)) (h0 : ∀ (M : kMem) (a0 : Nat) (a1 : Nat), GD (l, cTM_fixAfterDeletion, 3, RTM, g, 3, L0, none, yTM_fixAfterDeletion.name) (fun r : kMem => (none, r)) (k0 M a0 a1) 0 [(0, .ref a0), (1, .ref a1)] [] M) : ∀ (M : kMem) (a0 : Nat) (a1 : Nat) (a2 : Nat), GD (l, cTM_fixAfterDeletion, 3, RTM, g, 3, L0, none, yTM_fixAfterDeletion.name) (fun r : kMem => (none, r)) (F_TM_fixAfterDeletion_265 N k0 M a0 a1 a2) 265 [(0, .ref a0), (1, .ref a1), (2, .ref a2)] [] M := by
  intro M a0 a1 a2
  unfold F_TM_fixAfterDeletion_265
  refine d_st (fun hX _ => g_aload_n 266 2 (hX _) dTM_fixAfterDeletion_265 rfl rfl) rfl ?_
  refine d_callS 269 (k_TM_leftOf l g N M a2) lk_TM_leftOf q_1408 (by decide) rfl (Nat.le_of_ble_eq_true rfl) dTM_fixAfterDeletion_266 rfl (fun r11 _ => ?_)
  show GD _ _ _ _ _ [.ref r11] M
  refine d_callS 272 (k_TM_colorOf l g N M r11) lk_TM_colorOf q_1414 (by decide) rfl (Nat.le_of_ble_eq_true rfl) dTM_fixAfterDeletion_269 rfl (fun r12 _ => ?_)
  show GD _ _ _ _ _ [.int r12] M
  refine d_st (fun hX _ => g_iconst 273 (hX _) 1 dTM_fixAfterDeletion_272 rfl kc_i_1) rfl ?_
  refine d_ifN (fun hX _ => g_icmp_ne 302 276 (hX _) dTM_fixAfterDeletion_273 (by decide) rfl) (fun _ => ?_) (fun _ => ?_)
  · exact k_TM_fixAfterDeletion_302 N k0 h0 M a0 a1 a2
  · refine d_st (fun hX _ => g_aload_n 277 2 (hX _) dTM_fixAfterDeletion_276 rfl rfl) rfl ?_
    refine d_callS 280 (k_TM_rightOf l g N M a2) lk_TM_rightOf q_1411 (by decide) rfl (Nat.le_of_ble_eq_true rfl) dTM_fixAfterDeletion_277 rfl (fun r23 _ => ?_)
    show GD _ _ _ _ _ [.ref r23] M
    refine d_st (fun hX _ => g_iconst 281 (hX _) 1 dTM_fixAfterDeletion_280 rfl kc_i_1) rfl ?_
    refine d_callS 284 (k_TM_setColor l g N M r23 1) lk_TM_setColor q_1417 (by decide) rfl (Nat.le_of_ble_eq_true rfl) dTM_fixAfterDeletion_281 rfl (fun r24 _ => ?_)
    show GD _ _ _ _ _ [] r24
    refine d_st (fun hX _ => g_aload_n 285 2 (hX _) dTM_fixAfterDeletion_284 rfl rfl) rfl ?_
    refine d_st (fun hX _ => g_iconst 286 (hX _) 0 dTM_fixAfterDeletion_285 rfl kc_i_0) rfl ?_
    refine d_callS 289 (k_TM_setColor l g N r24 a2 0) lk_TM_setColor q_1417 (by decide) rfl (Nat.le_of_ble_eq_true rfl) dTM_fixAfterDeletion_286 rfl (fun r25 _ => ?_)
    show GD _ _ _ _ _ [] r25
    refine d_st (fun hX _ => g_aload_n 290 0 (hX _) dTM_fixAfterDeletion_289 rfl rfl) rfl ?_
    refine d_st (fun hX _ => g_aload_n 291 2 (hX _) dTM_fixAfterDeletion_290 rfl rfl) rfl ?_
    refine d_callV 294 (k_TM_rotateLeft l g N r25 a0 a2) lk_TM_rotateLeft (ci := 34) (T := TTM) (N := 9) rfl (Nat.le_of_ble_eq_true rfl) q_1420 (fun s args ht => ht _ q_14) (by decide) rfl (Nat.le_of_ble_eq_true rfl) dTM_fixAfterDeletion_291 rfl (fun r26 _ => ?_)
    show GD _ _ _ _ _ [] r26
    refine d_st (fun hX _ => g_aload_n 295 1 (hX _) dTM_fixAfterDeletion_294 rfl rfl) rfl ?_
    refine d_callS 298 (k_TM_parentOf l g N r26 a1) lk_TM_parentOf q_1405 (by decide) rfl (Nat.le_of_ble_eq_true rfl) dTM_fixAfterDeletion_295 rfl (fun r27 _ => ?_)
    show GD _ _ _ _ _ [.ref r27] r26
    refine d_callS 301 (k_TM_leftOf l g N r26 r27) lk_TM_leftOf q_1408 (by decide) rfl (Nat.le_of_ble_eq_true rfl) dTM_fixAfterDeletion_298 rfl (fun r28 _ => ?_)
    show GD _ _ _ _ _ [.ref r28] r26
    refine d_st (fun hX _ => g_astore_n 302 2 [(2, .ref r28), (0, .ref a0), (1, .ref a1)] (hX _) dTM_fixAfterDeletion_301 rfl rfl (Nat.le_of_ble_eq_true rfl) rfl) rfl ?_
    refine d_st (fun hX _ => g_lv [1, 2, 0] rfl) rfl ?_
    exact k_TM_fixAfterDeletion_302 N k0 h0 r26 a0 a1 r28
set_option maxRecDepth 100000 in
set_option maxHeartbeats 4000000 in
theorem k_TM_fixAfterDeletion_230 {l : Launch} {g : kG} {L0 : Nat} (N : Nat) (k0 : kMem → Nat → Nat → Option (kMem)) (h0 : ∀ (M : kMem) (a0 : Nat) (a1 : Nat), GD (l, cTM_fixAfterDeletion, 3, RTM, g, 3, L0, none, yTM_fixAfterDeletion.name) (fun r : kMem => (none, r)) (k0 M a0 a1) 0 [(0, .ref a0), (1, .ref a1)] [] M) : ∀ (M : kMem) (a0 : Nat) (a1 : Nat) (a2 : Nat), GD (l, cTM_fixAfterDeletion, 3, RTM, g, 3, L0, none, yTM_fixAfterDeletion.name) (fun r : kMem => (none, r)) (F_TM_fixAfterDeletion_230 N k0 M a0 a1 a2) 230 [(0, .ref a0), (1, .ref a1), (2, .ref a2)] [] M := by
  intro M a0 a1 a2
  unfold F_TM_fixAfterDeletion_230
  refine d_st (fun hX _ => g_aload_n 231 2 (hX _) dTM_fixAfterDeletion_230 rfl rfl) rfl ?_
  refine d_callS 234 (k_TM_rightOf l g N M a2) lk_TM_rightOf q_1411 (by decide) rfl (Nat.le_of_ble_eq_true rfl) dTM_fixAfterDeletion_231 rfl (fun r9 _ => ?_)
  show GD _ _ _ _ _ [.ref r9] M
  refine d_callS 237 (k_TM_colorOf l g N M r9) lk_TM_colorOf q_1414 (by decide) rfl (Nat.le_of_ble_eq_true rfl) dTM_fixAfterDeletion_234 rfl (fun r10 _ => ?_)
  show GD _ _ _ _ _ [.int r10] M
  refine d_st (fun hX _ => g_iconst 238 (hX _) 1 dTM_fixAfterDeletion_237 rfl kc_i_1) rfl ?_
  refine d_ifN (fun hX _ => g_icmp_ne 265 241 (hX _) dTM_fixAfterDeletion_238 (by decide) rfl) (fun _ => ?_) (fun _ => ?_)
  · exact k_TM_fixAfterDeletion_265 N k0 h0 M a0 a1 a2
  · refine d_st (fun hX _ => g_aload_n 242 2 (hX _) dTM_fixAfterDeletion_241 rfl rfl) rfl ?_
    refine d_callS 245 (k_TM_leftOf l g N M a2) lk_TM_leftOf q_1408 (by decide) rfl (Nat.le_of_ble_eq_true rfl) dTM_fixAfterDeletion_242 rfl (fun r29 _ => ?_)
    show GD _ _ _ _ _ [.ref r29] M
    refine d_callS 248 (k_TM_colorOf l g N M r29) lk_TM_colorOf q_1414 (by decide) rfl (Nat.le_of_ble_eq_true rfl) dTM_fixAfterDeletion_245 rfl (fun r30 _ => ?_)
    show GD _ _ _ _ _ [.int r30] M
    refine d_st (fun hX _ => g_iconst 249 (hX _) 1 dTM_fixAfterDeletion_248 rfl kc_i_1) rfl ?_
    refine d_ifN (fun hX _ => g_icmp_ne 265 252 (hX _) dTM_fixAfterDeletion_249 (by decide) rfl) (fun _ => ?_) (fun _ => ?_)
    · exact k_TM_fixAfterDeletion_265 N k0 h0 M a0 a1 a2
    · refine d_st (fun hX _ => g_aload_n 253 2 (hX _) dTM_fixAfterDeletion_252 rfl rfl) rfl ?_
      refine d_st (fun hX _ => g_iconst 254 (hX _) 0 dTM_fixAfterDeletion_253 rfl kc_i_0) rfl ?_
      refine d_callS 257 (k_TM_setColor l g N M a2 0) lk_TM_setColor q_1417 (by decide) rfl (Nat.le_of_ble_eq_true rfl) dTM_fixAfterDeletion_254 rfl (fun r31 _ => ?_)
      show GD _ _ _ _ _ [] r31
      refine d_st (fun hX _ => g_aload_n 258 1 (hX _) dTM_fixAfterDeletion_257 rfl rfl) rfl ?_
      refine d_callS 261 (k_TM_parentOf l g N r31 a1) lk_TM_parentOf q_1405 (by decide) rfl (Nat.le_of_ble_eq_true rfl) dTM_fixAfterDeletion_258 rfl (fun r32 _ => ?_)
      show GD _ _ _ _ _ [.ref r32] r31
      refine d_st (fun hX _ => g_astore_n 262 1 [(1, .ref r32), (0, .ref a0), (2, .ref a2)] (hX _) dTM_fixAfterDeletion_261 rfl rfl (Nat.le_of_ble_eq_true rfl) rfl) rfl ?_
      refine d_st (fun hX _ => g_goto 342 (hX _) dTM_fixAfterDeletion_262 (by decide)) rfl ?_
      refine d_st (fun hX _ => g_goto 0 (hX _) dTM_fixAfterDeletion_342 (by decide)) rfl ?_
      refine d_st (fun hX _ => g_lv [1, 0] rfl) rfl ?_
      exact h0 r31 a0 r32
set_option maxRecDepth 100000 in
set_option maxHeartbeats 4000000 in
theorem k_TM_fixAfterDeletion_143 {l : Launch} {g : kG} {L0 : Nat} (N : Nat) (k0 : kMem → Nat → Nat → Option (kMem)) (h0 : ∀ (M : kMem) (a0 : Nat) (a1 : Nat), GD (l, cTM_fixAfterDeletion, 3, RTM, g, 3, L0, none, yTM_fixAfterDeletion.name) (fun r : kMem => (none, r)) (k0 M a0 a1) 0 [(0, .ref a0), (1, .ref a1)] [] M) : ∀ (M : kMem) (a0 : Nat) (a1 : Nat) (a2 : Nat), GD (l, cTM_fixAfterDeletion, 3, RTM, g, 3, L0, none, yTM_fixAfterDeletion.name) (fun r : kMem => (none, r)) (F_TM_fixAfterDeletion_143 N k0 M a0 a1 a2) 143 [(0, .ref a0), (1, .ref a1), (2, .ref a2)] [] M := by
  intro M a0 a1 a2
  unfold F_TM_fixAfterDeletion_143
  refine d_st (fun hX _ => g_aload_n 144 2 (hX _) dTM_fixAfterDeletion_143 rfl rfl) rfl ?_
  refine d_st (fun hX _ => g_aload_n 145 1 (hX _) dTM_fixAfterDeletion_144 rfl rfl) rfl ?_
  refine d_callS 148 (k_TM_parentOf l g N M a1) lk_TM_parentOf q_1405 (by decide) rfl (Nat.le_of_ble_eq_true rfl) dTM_fixAfterDeletion_145 rfl (fun r47 _ => ?_)
  show GD _ _ _ _ _ [.ref r47, .ref a2] M
  refine d_callS 151 (k_TM_colorOf l g N M r47) lk_TM_colorOf q_1414 (by decide) rfl (Nat.le_of_ble_eq_true rfl) dTM_fixAfterDeletion_148 rfl (fun r48 _ => ?_)
  show GD _ _ _ _ _ [.int r48, .ref a2] M
  refine d_callS 154 (k_TM_setColor l g N M a2 r48) lk_TM_setColor q_1417 (by decide) rfl (Nat.le_of_ble_eq_true rfl) dTM_fixAfterDeletion_151 rfl (fun r49 _ => ?_)
  show GD _ _ _ _ _ [] r49
  refine d_st (fun hX _ => g_aload_n 155 1 (hX _) dTM_fixAfterDeletion_154 rfl rfl) rfl ?_
  refine d_callS 158 (k_TM_parentOf l g N r49 a1) lk_TM_parentOf q_1405 (by decide) rfl (Nat.le_of_ble_eq_true rfl) dTM_fixAfterDeletion_155 rfl (fun r50 _ => ?_)
  show GD _ _ _ _ _ [.ref r50] r49
  refine d_st (fun hX _ => g_iconst 159 (hX _) 1 dTM_fixAfterDeletion_158 rfl kc_i_1) rfl ?_
  refine d_callS 162 (k_TM_setColor l g N r49 r50 1) lk_TM_setColor q_1417 (by decide) rfl (Nat.le_of_ble_eq_true rfl) dTM_fixAfterDeletion_159 rfl (fun r51 _ => ?_)
  show GD _ _ _ _ _ [] r51
  refine d_st (fun hX _ => g_aload_n 163 2 (hX _) dTM_fixAfterDeletion_162 rfl rfl) rfl ?_
  refine d_callS 166 (k_TM_rightOf l g N r51 a2) lk_TM_rightOf q_1411 (by decide) rfl (Nat.le_of_ble_eq_true rfl) dTM_fixAfterDeletion_163 rfl (fun r52 _ => ?_)
  show GD _ _ _ _ _ [.ref r52] r51
  refine d_st (fun hX _ => g_iconst 167 (hX _) 1 dTM_fixAfterDeletion_166 rfl kc_i_1) rfl ?_
  refine d_callS 170 (k_TM_setColor l g N r51 r52 1) lk_TM_setColor q_1417 (by decide) rfl (Nat.le_of_ble_eq_true rfl) dTM_fixAfterDeletion_167 rfl (fun r53 _ => ?_)
  show GD _ _ _ _ _ [] r53
  refine d_st (fun hX _ => g_aload_n 171 0 (hX _) dTM_fixAfterDeletion_170 rfl rfl) rfl ?_
  refine d_st (fun hX _ => g_aload_n 172 1 (hX _) dTM_fixAfterDeletion_171 rfl rfl) rfl ?_
  refine d_callS 175 (k_TM_parentOf l g N r53 a1) lk_TM_parentOf q_1405 (by decide) rfl (Nat.le_of_ble_eq_true rfl) dTM_fixAfterDeletion_172 rfl (fun r54 _ => ?_)
  show GD _ _ _ _ _ [.ref r54, .ref a0] r53
  refine d_callV 178 (k_TM_rotateLeft l g N r53 a0 r54) lk_TM_rotateLeft (ci := 34) (T := TTM) (N := 9) rfl (Nat.le_of_ble_eq_true rfl) q_1420 (fun s args ht => ht _ q_14) (by decide) rfl (Nat.le_of_ble_eq_true rfl) dTM_fixAfterDeletion_175 rfl (fun r55 _ => ?_)
  show GD _ _ _ _ _ [] r55
  refine d_st (fun hX _ => g_aload_n 179 0 (hX _) dTM_fixAfterDeletion_178 rfl rfl) rfl ?_
  refine d_g (fun hX _ => e_TM_101 182 (hX _) dTM_fixAfterDeletion_179 rfl) rfl ?_
  refine d_klR (fun w56 hw56 => ?_)
  refine d_st (fun hX _ => g_astore_n 183 1 [(1, .ref w56), (0, .ref a0), (2, .ref a2)] (hX _) dTM_fixAfterDeletion_182 rfl rfl (Nat.le_of_ble_eq_true rfl) rfl) rfl ?_
  refine d_st (fun hX _ => g_goto 0 (hX _) dTM_fixAfterDeletion_183 (by decide)) rfl ?_
  refine d_st (fun hX _ => g_lv [1, 0] rfl) rfl ?_
  exact h0 r55 a0 w56
set_option maxRecDepth 100000 in
set_option maxHeartbeats 4000000 in
theorem k_TM_fixAfterDeletion_106 {l : Launch} {g : kG} {L0 : Nat} (N : Nat) (k0 : kMem → Nat → Nat → Option (kMem)) (h0 : ∀ (M : kMem) (a0 : Nat) (a1 : Nat), GD (l, cTM_fixAfterDeletion, 3, RTM, g, 3, L0, none, yTM_fixAfterDeletion.name) (fun r : kMem => (none, r)) (k0 M a0 a1) 0 [(0, .ref a0), (1, .ref a1)] [] M) : ∀ (M : kMem) (a0 : Nat) (a1 : Nat) (a2 : Nat), GD (l, cTM_fixAfterDeletion, 3, RTM, g, 3, L0, none, yTM_fixAfterDeletion.name) (fun r : kMem => (none, r)) (F_TM_fixAfterDeletion_106 N k0 M a0 a1 a2) 106 [(0, .ref a0), (1, .ref a1), (2, .ref a2)] [] M := by
  intro M a0 a1 a2
  unfold F_TM_fixAfterDeletion_106
  refine d_st (fun hX _ => g_aload_n 107 2 (hX _) dTM_fixAfterDeletion_106 rfl rfl) rfl ?_
  refine d_callS 110 (k_TM_rightOf l g N M a2) lk_TM_rightOf q_1411 (by decide) rfl (Nat.le_of_ble_eq_true rfl) dTM_fixAfterDeletion_107 rfl (fun r45 _ => ?_)
  show GD _ _ _ _ _ [.ref r45] M
  refine d_callS 113 (k_TM_colorOf l g N M r45) lk_TM_colorOf q_1414 (by decide) rfl (Nat.le_of_ble_eq_true rfl) dTM_fixAfterDeletion_110 rfl (fun r46 _ => ?_)
  show GD _ _ _ _ _ [.int r46] M
  refine d_st (fun hX _ => g_iconst 114 (hX _) 1 dTM_fixAfterDeletion_113 rfl kc_i_1) rfl ?_
  refine d_ifN (fun hX _ => g_icmp_ne 143 117 (hX _) dTM_fixAfterDeletion_114 (by decide) rfl) (fun _ => ?_) (fun _ => ?_)
  · exact k_TM_fixAfterDeletion_143 N k0 h0 M a0 a1 a2
  · refine d_st (fun hX _ => g_aload_n 118 2 (hX _) dTM_fixAfterDeletion_117 rfl rfl) rfl ?_
    refine d_callS 121 (k_TM_leftOf l g N M a2) lk_TM_leftOf q_1408 (by decide) rfl (Nat.le_of_ble_eq_true rfl) dTM_fixAfterDeletion_118 rfl (fun r57 _ => ?_)
    show GD _ _ _ _ _ [.ref r57] M
    refine d_st (fun hX _ => g_iconst 122 (hX _) 1 dTM_fixAfterDeletion_121 rfl kc_i_1) rfl ?_
    refine d_callS 125 (k_TM_setColor l g N M r57 1) lk_TM_setColor q_1417 (by decide) rfl (Nat.le_of_ble_eq_true rfl) dTM_fixAfterDeletion_122 rfl (fun r58 _ => ?_)
    show GD _ _ _ _ _ [] r58
    refine d_st (fun hX _ => g_aload_n 126 2 (hX _) dTM_fixAfterDeletion_125 rfl rfl) rfl ?_
    refine d_st (fun hX _ => g_iconst 127 (hX _) 0 dTM_fixAfterDeletion_126 rfl kc_i_0) rfl ?_
    refine d_callS 130 (k_TM_setColor l g N r58 a2 0) lk_TM_setColor q_1417 (by decide) rfl (Nat.le_of_ble_eq_true rfl) dTM_fixAfterDeletion_127 rfl (fun r59 _ => ?_)
    show GD _ _ _ _ _ [] r59
    refine d_st (fun hX _ => g_aload_n 131 0 (hX _) dTM_fixAfterDeletion_130 rfl rfl) rfl ?_
    refine d_st (fun hX _ => g_aload_n 132 2 (hX _) dTM_fixAfterDeletion_131 rfl rfl) rfl ?_
    refine d_callV 135 (k_TM_rotateRight l g N r59 a0 a2) lk_TM_rotateRight (ci := 34) (T := TTM) (N := 9) rfl (Nat.le_of_ble_eq_true rfl) q_1424 (fun s args ht => ht _ q_15) (by decide) rfl (Nat.le_of_ble_eq_true rfl) dTM_fixAfterDeletion_132 rfl (fun r60 _ => ?_)
    show GD _ _ _ _ _ [] r60
    refine d_st (fun hX _ => g_aload_n 136 1 (hX _) dTM_fixAfterDeletion_135 rfl rfl) rfl ?_
    refine d_callS 139 (k_TM_parentOf l g N r60 a1) lk_TM_parentOf q_1405 (by decide) rfl (Nat.le_of_ble_eq_true rfl) dTM_fixAfterDeletion_136 rfl (fun r61 _ => ?_)
    show GD _ _ _ _ _ [.ref r61] r60
    refine d_callS 142 (k_TM_rightOf l g N r60 r61) lk_TM_rightOf q_1411 (by decide) rfl (Nat.le_of_ble_eq_true rfl) dTM_fixAfterDeletion_139 rfl (fun r62 _ => ?_)
    show GD _ _ _ _ _ [.ref r62] r60
    refine d_st (fun hX _ => g_astore_n 143 2 [(2, .ref r62), (0, .ref a0), (1, .ref a1)] (hX _) dTM_fixAfterDeletion_142 rfl rfl (Nat.le_of_ble_eq_true rfl) rfl) rfl ?_
    refine d_st (fun hX _ => g_lv [1, 2, 0] rfl) rfl ?_
    exact k_TM_fixAfterDeletion_143 N k0 h0 r60 a0 a1 r62
set_option maxRecDepth 100000 in
set_option maxHeartbeats 4000000 in
theorem k_TM_fixAfterDeletion_71 {l : Launch} {g : kG} {L0 : Nat} (N : Nat) (k0 : kMem → Nat → Nat → Option (kMem)) (h0 : ∀ (M : kMem) (a0 : Nat) (a1 : Nat), GD (l, cTM_fixAfterDeletion, 3, RTM, g, 3, L0, none, yTM_fixAfterDeletion.name) (fun r : kMem => (none, r)) (k0 M a0 a1) 0 [(0, .ref a0), (1, .ref a1)] [] M) : ∀ (M : kMem) (a0 : Nat) (a1 : Nat) (a2 : Nat), GD (l, cTM_fixAfterDeletion, 3, RTM, g, 3, L0, none, yTM_fixAfterDeletion.name) (fun r : kMem => (none, r)) (F_TM_fixAfterDeletion_71 N k0 M a0 a1 a2) 71 [(0, .ref a0), (1, .ref a1), (2, .ref a2)] [] M := by
  intro M a0 a1 a2
  unfold F_TM_fixAfterDeletion_71
  refine d_st (fun hX _ => g_aload_n 72 2 (hX _) dTM_fixAfterDeletion_71 rfl rfl) rfl ?_
  refine d_callS 75 (k_TM_leftOf l g N M a2) lk_TM_leftOf q_1408 (by decide) rfl (Nat.le_of_ble_eq_true rfl) dTM_fixAfterDeletion_72 rfl (fun r43 _ => ?_)
  show GD _ _ _ _ _ [.ref r43] M
  refine d_callS 78 (k_TM_colorOf l g N M r43) lk_TM_colorOf q_1414 (by decide) rfl (Nat.le_of_ble_eq_true rfl) dTM_fixAfterDeletion_75 rfl (fun r44 _ => ?_)
  show GD _ _ _ _ _ [.int r44] M
  refine d_st (fun hX _ => g_iconst 79 (hX _) 1 dTM_fixAfterDeletion_78 rfl kc_i_1) rfl ?_
  refine d_ifN (fun hX _ => g_icmp_ne 106 82 (hX _) dTM_fixAfterDeletion_79 (by decide) rfl) (fun _ => ?_) (fun _ => ?_)
  · exact k_TM_fixAfterDeletion_106 N k0 h0 M a0 a1 a2
  · refine d_st (fun hX _ => g_aload_n 83 2 (hX _) dTM_fixAfterDeletion_82 rfl rfl) rfl ?_
    refine d_callS 86 (k_TM_rightOf l g N M a2) lk_TM_rightOf q_1411 (by decide) rfl (Nat.le_of_ble_eq_true rfl) dTM_fixAfterDeletion_83 rfl (fun r63 _ => ?_)
    show GD _ _ _ _ _ [.ref r63] M
    refine d_callS 89 (k_TM_colorOf l g N M r63) lk_TM_colorOf q_1414 (by decide) rfl (Nat.le_of_ble_eq_true rfl) dTM_fixAfterDeletion_86 rfl (fun r64 _ => ?_)
    show GD _ _ _ _ _ [.int r64] M
    refine d_st (fun hX _ => g_iconst 90 (hX _) 1 dTM_fixAfterDeletion_89 rfl kc_i_1) rfl ?_
    refine d_ifN (fun hX _ => g_icmp_ne 106 93 (hX _) dTM_fixAfterDeletion_90 (by decide) rfl) (fun _ => ?_) (fun _ => ?_)
    · exact k_TM_fixAfterDeletion_106 N k0 h0 M a0 a1 a2
    · refine d_st (fun hX _ => g_aload_n 94 2 (hX _) dTM_fixAfterDeletion_93 rfl rfl) rfl ?_
      refine d_st (fun hX _ => g_iconst 95 (hX _) 0 dTM_fixAfterDeletion_94 rfl kc_i_0) rfl ?_
      refine d_callS 98 (k_TM_setColor l g N M a2 0) lk_TM_setColor q_1417 (by decide) rfl (Nat.le_of_ble_eq_true rfl) dTM_fixAfterDeletion_95 rfl (fun r65 _ => ?_)
      show GD _ _ _ _ _ [] r65
      refine d_st (fun hX _ => g_aload_n 99 1 (hX _) dTM_fixAfterDeletion_98 rfl rfl) rfl ?_
      refine d_callS 102 (k_TM_parentOf l g N r65 a1) lk_TM_parentOf q_1405 (by decide) rfl (Nat.le_of_ble_eq_true rfl) dTM_fixAfterDeletion_99 rfl (fun r66 _ => ?_)
      show GD _ _ _ _ _ [.ref r66] r65
      refine d_st (fun hX _ => g_astore_n 103 1 [(1, .ref r66), (0, .ref a0), (2, .ref a2)] (hX _) dTM_fixAfterDeletion_102 rfl rfl (Nat.le_of_ble_eq_true rfl) rfl) rfl ?_
      refine d_st (fun hX _ => g_goto 183 (hX _) dTM_fixAfterDeletion_103 (by decide)) rfl ?_
      refine d_st (fun hX _ => g_goto 0 (hX _) dTM_fixAfterDeletion_183 (by decide)) rfl ?_
      refine d_st (fun hX _ => g_lv [1, 0] rfl) rfl ?_
      exact h0 r65 a0 r66
set_option maxRecDepth 100000 in
set_option maxHeartbeats 4000000 in
theorem k_TM_fixAfterDeletion_0 {l : Launch} {g : kG} {L0 : Nat} (N : Nat) : ∀ (n : Nat) (M : kMem) (a0 : Nat) (a1 : Nat), GD (l, cTM_fixAfterDeletion, 3, RTM, g, 3, L0, none, yTM_fixAfterDeletion.name) (fun r : kMem => (none, r)) (F_TM_fixAfterDeletion_0 N n M a0 a1) 0 [(0, .ref a0), (1, .ref a1)] [] M := by
  intro n
  induction n with
  | zero => intro _ _ _; exact d_none
  | succ n ih =>
    intro M a0 a1
    unfold F_TM_fixAfterDeletion_0
    refine d_st (fun hX _ => g_aload_n 1 1 (hX _) dTM_fixAfterDeletion_0 rfl rfl) rfl ?_
    refine d_st (fun hX _ => g_aload_n 2 0 (hX _) dTM_fixAfterDeletion_1 rfl rfl) rfl ?_
    refine d_g (fun hX _ => e_TM_101 5 (hX _) dTM_fixAfterDeletion_2 rfl) rfl ?_
    refine d_if (fun hX _ => g_acmp_eq 345 8 (hX _) dTM_fixAfterDeletion_5 (by decide) rfl) (fun _ => ?_) (fun _ => ?_)
    · refine d_st (fun hX _ => g_aload_n 346 1 (hX _) dTM_fixAfterDeletion_345 rfl rfl) rfl ?_
      refine d_st (fun hX _ => g_iconst 347 (hX _) 1 dTM_fixAfterDeletion_346 rfl kc_i_1) rfl ?_
      refine d_callS 350 (k_TM_setColor l g N M a1 1) lk_TM_setColor q_1417 (by decide) rfl (Nat.le_of_ble_eq_true rfl) dTM_fixAfterDeletion_347 rfl (fun r1 _ => ?_)
      show GD _ _ _ _ _ [] r1
      exact d_vret rfl rfl dTM_fixAfterDeletion_350
    · refine d_st (fun hX _ => g_aload_n 9 1 (hX _) dTM_fixAfterDeletion_8 rfl rfl) rfl ?_
      refine d_callS 12 (k_TM_colorOf l g N M a1) lk_TM_colorOf q_1414 (by decide) rfl (Nat.le_of_ble_eq_true rfl) dTM_fixAfterDeletion_9 rfl (fun r2 _ => ?_)
      show GD _ _ _ _ _ [.int r2] M
      refine d_st (fun hX _ => g_iconst 13 (hX _) 1 dTM_fixAfterDeletion_12 rfl kc_i_1) rfl ?_
      refine d_ifN (fun hX _ => g_icmp_ne 345 16 (hX _) dTM_fixAfterDeletion_13 (by decide) rfl) (fun _ => ?_) (fun _ => ?_)
      · refine d_st (fun hX _ => g_aload_n 346 1 (hX _) dTM_fixAfterDeletion_345 rfl rfl) rfl ?_
        refine d_st (fun hX _ => g_iconst 347 (hX _) 1 dTM_fixAfterDeletion_346 rfl kc_i_1) rfl ?_
        refine d_callS 350 (k_TM_setColor l g N M a1 1) lk_TM_setColor q_1417 (by decide) rfl (Nat.le_of_ble_eq_true rfl) dTM_fixAfterDeletion_347 rfl (fun r3 _ => ?_)
        show GD _ _ _ _ _ [] r3
        exact d_vret rfl rfl dTM_fixAfterDeletion_350
      · refine d_st (fun hX _ => g_aload_n 17 1 (hX _) dTM_fixAfterDeletion_16 rfl rfl) rfl ?_
        refine d_st (fun hX _ => g_aload_n 18 1 (hX _) dTM_fixAfterDeletion_17 rfl rfl) rfl ?_
        refine d_callS 21 (k_TM_parentOf l g N M a1) lk_TM_parentOf q_1405 (by decide) rfl (Nat.le_of_ble_eq_true rfl) dTM_fixAfterDeletion_18 rfl (fun r4 _ => ?_)
        show GD _ _ _ _ _ [.ref r4, .ref a1] M
        refine d_callS 24 (k_TM_leftOf l g N M r4) lk_TM_leftOf q_1408 (by decide) rfl (Nat.le_of_ble_eq_true rfl) dTM_fixAfterDeletion_21 rfl (fun r5 _ => ?_)
        show GD _ _ _ _ _ [.ref r5, .ref a1] M
        refine d_ifN (fun hX _ => g_acmp_ne 186 27 (hX _) dTM_fixAfterDeletion_24 (by decide) rfl) (fun _ => ?_) (fun _ => ?_)
        · refine d_st (fun hX _ => g_aload_n 187 1 (hX _) dTM_fixAfterDeletion_186 rfl rfl) rfl ?_
          refine d_callS 190 (k_TM_parentOf l g N M a1) lk_TM_parentOf q_1405 (by decide) rfl (Nat.le_of_ble_eq_true rfl) dTM_fixAfterDeletion_187 rfl (fun r6 _ => ?_)
          show GD _ _ _ _ _ [.ref r6] M
          refine d_callS 193 (k_TM_leftOf l g N M r6) lk_TM_leftOf q_1408 (by decide) rfl (Nat.le_of_ble_eq_true rfl) dTM_fixAfterDeletion_190 rfl (fun r7 _ => ?_)
          show GD _ _ _ _ _ [.ref r7] M
          refine d_st (fun hX _ => g_astore_n 194 2 [(2, .ref r7), (0, .ref a0), (1, .ref a1)] (hX _) dTM_fixAfterDeletion_193 rfl rfl (Nat.le_of_ble_eq_true rfl) rfl) rfl ?_
          refine d_st (fun hX _ => g_aload_n 195 0 (hX _) dTM_fixAfterDeletion_194 rfl rfl) rfl ?_
          refine d_callS 198 (k_TM_colorOf l g N M r7) lk_TM_colorOf q_1414 (by decide) rfl (Nat.le_of_ble_eq_true rfl) dTM_fixAfterDeletion_195 rfl (fun r8 _ => ?_)
          show GD _ _ _ _ _ [.int r8] M
          refine d_ifN (fun hX _ => g_if_ne 230 201 (hX _) dTM_fixAfterDeletion_198 (by decide) rfl) (fun _ => ?_) (fun _ => ?_)
          · refine d_st (fun hX _ => g_lv [1, 2, 0] rfl) rfl ?_
            exact k_TM_fixAfterDeletion_230 N (fun M a0 a1 => F_TM_fixAfterDeletion_0 N n M a0 a1) ih M a0 a1 r7
          · refine d_st (fun hX _ => g_aload_n 202 0 (hX _) dTM_fixAfterDeletion_201 rfl rfl) rfl ?_
            refine d_st (fun hX _ => g_iconst 203 (hX _) 1 dTM_fixAfterDeletion_202 rfl kc_i_1) rfl ?_
            refine d_callS 206 (k_TM_setColor l g N M r7 1) lk_TM_setColor q_1417 (by decide) rfl (Nat.le_of_ble_eq_true rfl) dTM_fixAfterDeletion_203 rfl (fun r33 _ => ?_)
            show GD _ _ _ _ _ [] r33
            refine d_st (fun hX _ => g_aload_n 207 2 (hX _) dTM_fixAfterDeletion_206 rfl rfl) rfl ?_
            refine d_callS 210 (k_TM_parentOf l g N r33 a1) lk_TM_parentOf q_1405 (by decide) rfl (Nat.le_of_ble_eq_true rfl) dTM_fixAfterDeletion_207 rfl (fun r34 _ => ?_)
            show GD _ _ _ _ _ [.ref r34] r33
            refine d_st (fun hX _ => g_iconst 211 (hX _) 0 dTM_fixAfterDeletion_210 rfl kc_i_0) rfl ?_
            refine d_callS 214 (k_TM_setColor l g N r33 r34 0) lk_TM_setColor q_1417 (by decide) rfl (Nat.le_of_ble_eq_true rfl) dTM_fixAfterDeletion_211 rfl (fun r35 _ => ?_)
            show GD _ _ _ _ _ [] r35
            refine d_st (fun hX _ => g_aload_n 215 1 (hX _) dTM_fixAfterDeletion_214 rfl rfl) rfl ?_
            refine d_st (fun hX _ => g_aload_n 216 2 (hX _) dTM_fixAfterDeletion_215 rfl rfl) rfl ?_
            refine d_callS 219 (k_TM_parentOf l g N r35 a1) lk_TM_parentOf q_1405 (by decide) rfl (Nat.le_of_ble_eq_true rfl) dTM_fixAfterDeletion_216 rfl (fun r36 _ => ?_)
            show GD _ _ _ _ _ [.ref r36, .ref a0] r35
            refine d_callV 222 (k_TM_rotateRight l g N r35 a0 r36) lk_TM_rotateRight (ci := 34) (T := TTM) (N := 9) rfl (Nat.le_of_ble_eq_true rfl) q_1424 (fun s args ht => ht _ q_15) (by decide) rfl (Nat.le_of_ble_eq_true rfl) dTM_fixAfterDeletion_219 rfl (fun r37 _ => ?_)
            show GD _ _ _ _ _ [] r37
            refine d_st (fun hX _ => g_aload_n 223 2 (hX _) dTM_fixAfterDeletion_222 rfl rfl) rfl ?_
            refine d_callS 226 (k_TM_parentOf l g N r37 a1) lk_TM_parentOf q_1405 (by decide) rfl (Nat.le_of_ble_eq_true rfl) dTM_fixAfterDeletion_223 rfl (fun r38 _ => ?_)
            show GD _ _ _ _ _ [.ref r38] r37
            refine d_callS 229 (k_TM_leftOf l g N r37 r38) lk_TM_leftOf q_1408 (by decide) rfl (Nat.le_of_ble_eq_true rfl) dTM_fixAfterDeletion_226 rfl (fun r39 _ => ?_)
            show GD _ _ _ _ _ [.ref r39] r37
            refine d_st (fun hX _ => g_astore_n 230 2 [(2, .ref r39), (0, .ref a0), (1, .ref a1)] (hX _) dTM_fixAfterDeletion_229 rfl rfl (Nat.le_of_ble_eq_true rfl) rfl) rfl ?_
            refine d_st (fun hX _ => g_lv [1, 2, 0] rfl) rfl ?_
            exact k_TM_fixAfterDeletion_230 N (fun M a0 a1 => F_TM_fixAfterDeletion_0 N n M a0 a1) ih r37 a0 a1 r39
        · refine d_st (fun hX _ => g_aload_n 28 1 (hX _) dTM_fixAfterDeletion_27 rfl rfl) rfl ?_
          refine d_callS 31 (k_TM_parentOf l g N M a1) lk_TM_parentOf q_1405 (by decide) rfl (Nat.le_of_ble_eq_true rfl) dTM_fixAfterDeletion_28 rfl (fun r40 _ => ?_)
          show GD _ _ _ _ _ [.ref r40] M
          refine d_callS 34 (k_TM_rightOf l g N M r40) lk_TM_rightOf q_1411 (by decide) rfl (Nat.le_of_ble_eq_true rfl) dTM_fixAfterDeletion_31 rfl (fun r41 _ => ?_)
          show GD _ _ _ _ _ [.ref r41] M
          refine d_st (fun hX _ => g_astore_n 35 2 [(2, .ref r41), (0, .ref a0), (1, .ref a1)] (hX _) dTM_fixAfterDeletion_34 rfl rfl (Nat.le_of_ble_eq_true rfl) rfl) rfl ?_
          refine d_st (fun hX _ => g_aload_n 36 0 (hX _) dTM_fixAfterDeletion_35 rfl rfl) rfl ?_
          refine d_callS 39 (k_TM_colorOf l g N M r41) lk_TM_colorOf q_1414 (by decide) rfl (Nat.le_of_ble_eq_true rfl) dTM_fixAfterDeletion_36 rfl (fun r42 _ => ?_)
          show GD _ _ _ _ _ [.int r42] M
          refine d_ifN (fun hX _ => g_if_ne 71 42 (hX _) dTM_fixAfterDeletion_39 (by decide) rfl) (fun _ => ?_) (fun _ => ?_)
          · refine d_st (fun hX _ => g_lv [1, 2, 0] rfl) rfl ?_
            exact k_TM_fixAfterDeletion_71 N (fun M a0 a1 => F_TM_fixAfterDeletion_0 N n M a0 a1) ih M a0 a1 r41
          · refine d_st (fun hX _ => g_aload_n 43 0 (hX _) dTM_fixAfterDeletion_42 rfl rfl) rfl ?_
            refine d_st (fun hX _ => g_iconst 44 (hX _) 1 dTM_fixAfterDeletion_43 rfl kc_i_1) rfl ?_
            refine d_callS 47 (k_TM_setColor l g N M r41 1) lk_TM_setColor q_1417 (by decide) rfl (Nat.le_of_ble_eq_true rfl) dTM_fixAfterDeletion_44 rfl (fun r67 _ => ?_)
            show GD _ _ _ _ _ [] r67
            refine d_st (fun hX _ => g_aload_n 48 2 (hX _) dTM_fixAfterDeletion_47 rfl rfl) rfl ?_
            refine d_callS 51 (k_TM_parentOf l g N r67 a1) lk_TM_parentOf q_1405 (by decide) rfl (Nat.le_of_ble_eq_true rfl) dTM_fixAfterDeletion_48 rfl (fun r68 _ => ?_)
            show GD _ _ _ _ _ [.ref r68] r67
            refine d_st (fun hX _ => g_iconst 52 (hX _) 0 dTM_fixAfterDeletion_51 rfl kc_i_0) rfl ?_
            refine d_callS 55 (k_TM_setColor l g N r67 r68 0) lk_TM_setColor q_1417 (by decide) rfl (Nat.le_of_ble_eq_true rfl) dTM_fixAfterDeletion_52 rfl (fun r69 _ => ?_)
            show GD _ _ _ _ _ [] r69
            refine d_st (fun hX _ => g_aload_n 56 1 (hX _) dTM_fixAfterDeletion_55 rfl rfl) rfl ?_
            refine d_st (fun hX _ => g_aload_n 57 2 (hX _) dTM_fixAfterDeletion_56 rfl rfl) rfl ?_
            refine d_callS 60 (k_TM_parentOf l g N r69 a1) lk_TM_parentOf q_1405 (by decide) rfl (Nat.le_of_ble_eq_true rfl) dTM_fixAfterDeletion_57 rfl (fun r70 _ => ?_)
            show GD _ _ _ _ _ [.ref r70, .ref a0] r69
            refine d_callV 63 (k_TM_rotateLeft l g N r69 a0 r70) lk_TM_rotateLeft (ci := 34) (T := TTM) (N := 9) rfl (Nat.le_of_ble_eq_true rfl) q_1420 (fun s args ht => ht _ q_14) (by decide) rfl (Nat.le_of_ble_eq_true rfl) dTM_fixAfterDeletion_60 rfl (fun r71 _ => ?_)
            show GD _ _ _ _ _ [] r71
            refine d_st (fun hX _ => g_aload_n 64 2 (hX _) dTM_fixAfterDeletion_63 rfl rfl) rfl ?_
            refine d_callS 67 (k_TM_parentOf l g N r71 a1) lk_TM_parentOf q_1405 (by decide) rfl (Nat.le_of_ble_eq_true rfl) dTM_fixAfterDeletion_64 rfl (fun r72 _ => ?_)
            show GD _ _ _ _ _ [.ref r72] r71
            refine d_callS 70 (k_TM_rightOf l g N r71 r72) lk_TM_rightOf q_1411 (by decide) rfl (Nat.le_of_ble_eq_true rfl) dTM_fixAfterDeletion_67 rfl (fun r73 _ => ?_)
            show GD _ _ _ _ _ [.ref r73] r71
            refine d_st (fun hX _ => g_astore_n 71 2 [(2, .ref r73), (0, .ref a0), (1, .ref a1)] (hX _) dTM_fixAfterDeletion_70 rfl rfl (Nat.le_of_ble_eq_true rfl) rfl) rfl ?_
            refine d_st (fun hX _ => g_lv [1, 2, 0] rfl) rfl ?_
            exact k_TM_fixAfterDeletion_71 N (fun M a0 a1 => F_TM_fixAfterDeletion_0 N n M a0 a1) ih r71 a0 a1 r73
set_option maxRecDepth 100000 in
set_option maxHeartbeats 4000000 in
theorem k_TM_fixAfterDeletion (l : Launch) (g : kG) (N : Nat) (M : kMem) (a0 : Nat) (a1 : Nat) : kMetD l g yTM_fixAfterDeletion cTM_fixAfterDeletion 3 none 3 [.ref a0, .ref a1] M (fun r : kMem => (none, r)) (F_TM_fixAfterDeletion N M a0 a1) := by
  refine k_ofD (lv := [(0, .ref a0), (1, .ref a1)]) RTM (by decide) rfl rfl (Nat.le_of_ble_eq_true rfl) ?_
  unfold F_TM_fixAfterDeletion
  exact k_TM_fixAfterDeletion_0 N N M a0 a1
set_option maxRecDepth 100000 in
set_option maxHeartbeats 4000000 in
theorem k_TM_deleteEntry_192 {l : Launch} {g : kG} {L0 : Nat} (N : Nat) : ∀ (M : kMem) (a1 : Nat), GD (l, cTM_deleteEntry, 3, RTM, g, 4, L0, none, yTM_deleteEntry.name) (fun r : kMem => (none, r)) (F_TM_deleteEntry_192 N M a1) 192 [(1, .ref a1)] [] M := by
  intro M a1
  unfold F_TM_deleteEntry_192
  refine d_st (fun hX _ => g_aload_n 193 0 (hX _) dTM_deleteEntry_192 rfl rfl) rfl ?_
  refine d_g (fun hX _ => e_TM_124 196 (hX _) dTM_deleteEntry_193 rfl) rfl ?_
  refine d_if (fun hX _ => g_ifnull 245 199 (hX _) dTM_deleteEntry_196 (by decide) rfl) (fun _ => ?_) (fun _ => ?_)
  · exact d_vret rfl rfl dTM_deleteEntry_245
  · refine d_st (fun hX _ => g_aload_n 200 0 (hX _) dTM_deleteEntry_199 rfl rfl) rfl ?_
    refine d_st (fun hX _ => g_aload_n 201 0 (hX _) dTM_deleteEntry_200 rfl rfl) rfl ?_
    refine d_g (fun hX _ => e_TM_124 204 (hX _) dTM_deleteEntry_201 rfl) rfl ?_
    refine d_g (fun hX _ => e_TM_111 207 (hX _) dTM_deleteEntry_204 rfl) rfl ?_
    refine d_ifN (fun hX _ => g_acmp_ne 221 210 (hX _) dTM_deleteEntry_207 (by decide) rfl) (fun _ => ?_) (fun _ => ?_)
    · refine d_st (fun hX _ => g_aload_n 222 0 (hX _) dTM_deleteEntry_221 rfl rfl) rfl ?_
      refine d_st (fun hX _ => g_aload_n 223 0 (hX _) dTM_deleteEntry_222 rfl rfl) rfl ?_
      refine d_g (fun hX _ => e_TM_124 226 (hX _) dTM_deleteEntry_223 rfl) rfl ?_
      refine d_g (fun hX _ => e_TM_114 229 (hX _) dTM_deleteEntry_226 rfl) rfl ?_
      refine d_ifN (fun hX _ => g_acmp_ne 240 232 (hX _) dTM_deleteEntry_229 (by decide) rfl) (fun _ => ?_) (fun _ => ?_)
      · refine d_st (fun hX _ => g_aload_n 241 0 (hX _) dTM_deleteEntry_240 rfl rfl) rfl ?_
        refine d_st (fun hX _ => g_null 242 (hX _) dTM_deleteEntry_241 rfl) rfl ?_
        refine d_g (fun hX _ => ur_TM_124 245 (hX _) dTM_deleteEntry_242 rfl) rfl ?_
        refine d_klM (fun M3 hM3 => ?_)
        exact d_vret rfl rfl dTM_deleteEntry_245
      · refine d_st (fun hX _ => g_aload_n 233 0 (hX _) dTM_deleteEntry_232 rfl rfl) rfl ?_
        refine d_g (fun hX _ => e_TM_124 236 (hX _) dTM_deleteEntry_233 rfl) rfl ?_
        refine d_st (fun hX _ => g_null 237 (hX _) dTM_deleteEntry_236 rfl) rfl ?_
        refine d_g (fun hX _ => ur_TM_114 240 (hX _) dTM_deleteEntry_237 rfl) rfl ?_
        refine d_klM (fun M4 hM4 => ?_)
        refine d_st (fun hX _ => g_aload_n 241 0 (hX _) dTM_deleteEntry_240 rfl rfl) rfl ?_
        refine d_st (fun hX _ => g_null 242 (hX _) dTM_deleteEntry_241 rfl) rfl ?_
        refine d_g (fun hX _ => ur_TM_124 245 (hX _) dTM_deleteEntry_242 rfl) rfl ?_
        refine d_klM (fun M5 hM5 => ?_)
        exact d_vret rfl rfl dTM_deleteEntry_245
    · refine d_st (fun hX _ => g_aload_n 211 0 (hX _) dTM_deleteEntry_210 rfl rfl) rfl ?_
      refine d_g (fun hX _ => e_TM_124 214 (hX _) dTM_deleteEntry_211 rfl) rfl ?_
      refine d_st (fun hX _ => g_null 215 (hX _) dTM_deleteEntry_214 rfl) rfl ?_
      refine d_g (fun hX _ => ur_TM_111 218 (hX _) dTM_deleteEntry_215 rfl) rfl ?_
      refine d_klM (fun M6 hM6 => ?_)
      refine d_st (fun hX _ => g_goto 240 (hX _) dTM_deleteEntry_218 (by decide)) rfl ?_
      refine d_st (fun hX _ => g_aload_n 241 0 (hX _) dTM_deleteEntry_240 rfl rfl) rfl ?_
      refine d_st (fun hX _ => g_null 242 (hX _) dTM_deleteEntry_241 rfl) rfl ?_
      refine d_g (fun hX _ => ur_TM_124 245 (hX _) dTM_deleteEntry_242 rfl) rfl ?_
      refine d_klM (fun M7 hM7 => ?_)
      exact d_vret rfl rfl dTM_deleteEntry_245
set_option maxRecDepth 100000 in
set_option maxHeartbeats 4000000 in
theorem k_TM_deleteEntry_133 {l : Launch} {g : kG} {L0 : Nat} (N : Nat) : ∀ (M : kMem) (a0 : Nat) (a1 : Nat) (a2 : Nat), GD (l, cTM_deleteEntry, 3, RTM, g, 4, L0, none, yTM_deleteEntry.name) (fun r : kMem => (none, r)) (F_TM_deleteEntry_133 N M a0 a1 a2) 133 [(0, .ref a0), (1, .ref a1), (2, .ref a2)] [] M := by
  intro M a0 a1 a2
  unfold F_TM_deleteEntry_133
  refine d_st (fun hX _ => g_aload_n 134 1 (hX _) dTM_deleteEntry_133 rfl rfl) rfl ?_
  refine d_st (fun hX _ => g_aload_n 135 1 (hX _) dTM_deleteEntry_134 rfl rfl) rfl ?_
  refine d_st (fun hX _ => g_aload_n 136 1 (hX _) dTM_deleteEntry_135 rfl rfl) rfl ?_
  refine d_st (fun hX _ => g_null 137 (hX _) dTM_deleteEntry_136 rfl) rfl ?_
  refine d_st (fun hX _ => g_dup_x1 138 (hX _) dTM_deleteEntry_137 rfl rfl rfl) rfl ?_
  refine d_g (fun hX _ => ur_TM_124 141 (hX _) dTM_deleteEntry_138 rfl) rfl ?_
  refine d_klM (fun M12 hM12 => ?_)
  refine d_st (fun hX _ => g_dup_x1 142 (hX _) dTM_deleteEntry_141 rfl rfl rfl) rfl ?_
  refine d_g (fun hX _ => ur_TM_114 145 (hX _) dTM_deleteEntry_142 rfl) rfl ?_
  refine d_klM (fun M13 hM13 => ?_)
  refine d_g (fun hX _ => ur_TM_111 148 (hX _) dTM_deleteEntry_145 rfl) rfl ?_
  refine d_klM (fun M14 hM14 => ?_)
  refine d_st (fun hX _ => g_aload_n 149 1 (hX _) dTM_deleteEntry_148 rfl rfl) rfl ?_
  refine d_g (fun hX _ => e_TM_290 152 (hX _) dTM_deleteEntry_149 rfl) rfl ?_
  refine d_st (fun hX _ => g_iconst 153 (hX _) 1 dTM_deleteEntry_152 rfl kc_i_1) rfl ?_
  refine d_ifN (fun hX _ => g_icmp_ne 245 156 (hX _) dTM_deleteEntry_153 (by decide) rfl) (fun _ => ?_) (fun _ => ?_)
  · exact d_vret rfl rfl dTM_deleteEntry_245
  · refine d_st (fun hX _ => g_aload_n 157 0 (hX _) dTM_deleteEntry_156 rfl rfl) rfl ?_
    refine d_st (fun hX _ => g_aload_n 158 2 (hX _) dTM_deleteEntry_157 rfl rfl) rfl ?_
    refine d_callV 161 (k_TM_fixAfterDeletion l g N M14 a0 a2) lk_TM_fixAfterDeletion (ci := 34) (T := TTM) (N := 9) rfl (Nat.le_of_ble_eq_true rfl) q_1959 (fun s args ht => ht _ q_29) (by decide) rfl (Nat.le_of_ble_eq_true rfl) dTM_deleteEntry_158 rfl (fun r15 _ => ?_)
    show GD _ _ _ _ _ [] r15
    refine d_st (fun hX _ => g_goto 245 (hX _) dTM_deleteEntry_161 (by decide)) rfl ?_
    exact d_vret rfl rfl dTM_deleteEntry_245
set_option maxRecDepth 100000 in
set_option maxHeartbeats 4000000 in
theorem k_TM_deleteEntry_75 {l : Launch} {g : kG} {L0 : Nat} (N : Nat) : ∀ (M : kMem) (a0 : Nat) (a1 : Nat) (y0 : Nat), GD (l, cTM_deleteEntry, 3, RTM, g, 4, L0, none, yTM_deleteEntry.name) (fun r : kMem => (none, r)) (F_TM_deleteEntry_75 N M a0 a1 y0) 75 [(0, .ref a0), (1, .ref a1)] [.ref y0] M := by
  intro M a0 a1 y0
  unfold F_TM_deleteEntry_75
  refine d_st (fun hX _ => g_astore_n 76 2 [(2, .ref y0), (0, .ref a0), (1, .ref a1)] (hX _) dTM_deleteEntry_75 rfl rfl (Nat.le_of_ble_eq_true rfl) rfl) rfl ?_
  refine d_st (fun hX _ => g_aload_n 77 0 (hX _) dTM_deleteEntry_76 rfl rfl) rfl ?_
  refine d_if (fun hX _ => g_ifnull 164 80 (hX _) dTM_deleteEntry_77 (by decide) rfl) (fun _ => ?_) (fun _ => ?_)
  · refine d_st (fun hX _ => g_aload_n 165 2 (hX _) dTM_deleteEntry_164 rfl rfl) rfl ?_
    refine d_g (fun hX _ => e_TM_124 168 (hX _) dTM_deleteEntry_165 rfl) rfl ?_
    refine d_ifN (fun hX _ => g_ifnonnull 179 171 (hX _) dTM_deleteEntry_168 (by decide) rfl) (fun _ => ?_) (fun _ => ?_)
    · refine d_st (fun hX _ => g_aload_n 180 2 (hX _) dTM_deleteEntry_179 rfl rfl) rfl ?_
      refine d_g (fun hX _ => e_TM_290 183 (hX _) dTM_deleteEntry_180 rfl) rfl ?_
      refine d_st (fun hX _ => g_iconst 184 (hX _) 1 dTM_deleteEntry_183 rfl kc_i_1) rfl ?_
      refine d_ifN (fun hX _ => g_icmp_ne 192 187 (hX _) dTM_deleteEntry_184 (by decide) rfl) (fun _ => ?_) (fun _ => ?_)
      · refine d_st (fun hX _ => g_lv [2] rfl) rfl ?_
        exact k_TM_deleteEntry_192 N M a1
      · refine d_st (fun hX _ => g_aload_n 188 1 (hX _) dTM_deleteEntry_187 rfl rfl) rfl ?_
        refine d_st (fun hX _ => g_aload_n 189 2 (hX _) dTM_deleteEntry_188 rfl rfl) rfl ?_
        refine d_callV 192 (k_TM_fixAfterDeletion l g N M a0 a1) lk_TM_fixAfterDeletion (ci := 34) (T := TTM) (N := 9) rfl (Nat.le_of_ble_eq_true rfl) q_1959 (fun s args ht => ht _ q_29) (by decide) rfl (Nat.le_of_ble_eq_true rfl) dTM_deleteEntry_189 rfl (fun r8 _ => ?_)
        show GD _ _ _ _ _ [] r8
        refine d_st (fun hX _ => g_lv [2] rfl) rfl ?_
        exact k_TM_deleteEntry_192 N r8 a1
    · refine d_st (fun hX _ => g_aload_n 172 1 (hX _) dTM_deleteEntry_171 rfl rfl) rfl ?_
      refine d_st (fun hX _ => g_null 173 (hX _) dTM_deleteEntry_172 rfl) rfl ?_
      refine d_g (fun hX _ => ur_TM_101 176 (hX _) dTM_deleteEntry_173 rfl) rfl ?_
      refine d_klM (fun M9 hM9 => ?_)
      refine d_st (fun hX _ => g_goto 245 (hX _) dTM_deleteEntry_176 (by decide)) rfl ?_
      exact d_vret rfl rfl dTM_deleteEntry_245
  · refine d_st (fun hX _ => g_aload_n 81 0 (hX _) dTM_deleteEntry_80 rfl rfl) rfl ?_
    refine d_st (fun hX _ => g_aload_n 82 2 (hX _) dTM_deleteEntry_81 rfl rfl) rfl ?_
    refine d_g (fun hX _ => e_TM_124 85 (hX _) dTM_deleteEntry_82 rfl) rfl ?_
    refine d_g (fun hX _ => ur_TM_124 88 (hX _) dTM_deleteEntry_85 rfl) rfl ?_
    refine d_klM (fun M10 hM10 => ?_)
    refine d_st (fun hX _ => g_aload_n 89 2 (hX _) dTM_deleteEntry_88 rfl rfl) rfl ?_
    refine d_g (fun hX _ => e_TM_124 92 (hX _) dTM_deleteEntry_89 rfl) rfl ?_
    refine d_ifN (fun hX _ => g_ifnonnull 103 95 (hX _) dTM_deleteEntry_92 (by decide) rfl) (fun _ => ?_) (fun _ => ?_)
    · refine d_st (fun hX _ => g_aload_n 104 2 (hX _) dTM_deleteEntry_103 rfl rfl) rfl ?_
      refine d_st (fun hX _ => g_aload_n 105 2 (hX _) dTM_deleteEntry_104 rfl rfl) rfl ?_
      refine d_g (fun hX _ => e_TM_124 108 (hX _) dTM_deleteEntry_105 rfl) rfl ?_
      refine d_g (fun hX _ => e_TM_111 111 (hX _) dTM_deleteEntry_108 rfl) rfl ?_
      refine d_ifN (fun hX _ => g_acmp_ne 125 114 (hX _) dTM_deleteEntry_111 (by decide) rfl) (fun _ => ?_) (fun _ => ?_)
      · refine d_st (fun hX _ => g_aload_n 126 2 (hX _) dTM_deleteEntry_125 rfl rfl) rfl ?_
        refine d_g (fun hX _ => e_TM_124 129 (hX _) dTM_deleteEntry_126 rfl) rfl ?_
        refine d_st (fun hX _ => g_aload_n 130 0 (hX _) dTM_deleteEntry_129 rfl rfl) rfl ?_
        refine d_g (fun hX _ => ur_TM_114 133 (hX _) dTM_deleteEntry_130 rfl) rfl ?_
        refine d_klM (fun M11 hM11 => ?_)
        refine d_st (fun hX _ => g_lv [1, 2, 0] rfl) rfl ?_
        exact k_TM_deleteEntry_133 N M11 a0 a1 y0
      · refine d_st (fun hX _ => g_aload_n 115 2 (hX _) dTM_deleteEntry_114 rfl rfl) rfl ?_
        refine d_g (fun hX _ => e_TM_124 118 (hX _) dTM_deleteEntry_115 rfl) rfl ?_
        refine d_st (fun hX _ => g_aload_n 119 0 (hX _) dTM_deleteEntry_118 rfl rfl) rfl ?_
        refine d_g (fun hX _ => ur_TM_111 122 (hX _) dTM_deleteEntry_119 rfl) rfl ?_
        refine d_klM (fun M16 hM16 => ?_)
        refine d_st (fun hX _ => g_goto 133 (hX _) dTM_deleteEntry_122 (by decide)) rfl ?_
        refine d_st (fun hX _ => g_lv [1, 2, 0] rfl) rfl ?_
        exact k_TM_deleteEntry_133 N M16 a0 a1 y0
    · refine d_st (fun hX _ => g_aload_n 96 1 (hX _) dTM_deleteEntry_95 rfl rfl) rfl ?_
      refine d_st (fun hX _ => g_aload_n 97 0 (hX _) dTM_deleteEntry_96 rfl rfl) rfl ?_
      refine d_g (fun hX _ => ur_TM_101 100 (hX _) dTM_deleteEntry_97 rfl) rfl ?_
      refine d_klM (fun M17 hM17 => ?_)
      refine d_st (fun hX _ => g_goto 133 (hX _) dTM_deleteEntry_100 (by decide)) rfl ?_
      refine d_st (fun hX _ => g_lv [1, 2, 0] rfl) rfl ?_
      exact k_TM_deleteEntry_133 N M17 a0 a1 y0
set_option maxRecDepth 100000 in
set_option maxHeartbeats 4000000 in
theorem k_TM_deleteEntry_57 {l : Launch} {g : kG} {L0 : Nat} (N : Nat) : ∀ (M : kMem) (a0 : Nat) (a1 : Nat), GD (l, cTM_deleteEntry, 3, RTM, g, 4, L0, none, yTM_deleteEntry.name) (fun r : kMem => (none, r)) (F_TM_deleteEntry_57 N M a0 a1) 57 [(0, .ref a0), (1, .ref a1)] [] M := by
  intro M a0 a1
  unfold F_TM_deleteEntry_57
  refine d_st (fun hX _ => g_aload_n 58 1 (hX _) dTM_deleteEntry_57 rfl rfl) rfl ?_
  refine d_g (fun hX _ => e_TM_111 61 (hX _) dTM_deleteEntry_58 rfl) rfl ?_
  refine d_if (fun hX _ => g_ifnull 71 64 (hX _) dTM_deleteEntry_61 (by decide) rfl) (fun _ => ?_) (fun _ => ?_)
  · refine d_st (fun hX _ => g_aload_n 72 1 (hX _) dTM_deleteEntry_71 rfl rfl) rfl ?_
    refine d_g (fun hX _ => e_TM_114 75 (hX _) dTM_deleteEntry_72 rfl) rfl ?_
    exact k_TM_deleteEntry_75 N M a0 a1 (kR M a1 3)
  · refine d_st (fun hX _ => g_aload_n 65 1 (hX _) dTM_deleteEntry_64 rfl rfl) rfl ?_
    refine d_g (fun hX _ => e_TM_111 68 (hX _) dTM_deleteEntry_65 rfl) rfl ?_
    refine d_st (fun hX _ => g_goto 75 (hX _) dTM_deleteEntry_68 (by decide)) rfl ?_
    exact k_TM_deleteEntry_75 N M a0 a1 (kR M a1 2)
set_option maxRecDepth 100000 in
set_option maxHeartbeats 4000000 in
theorem k_TM_deleteEntry (l : Launch) (g : kG) (N : Nat) (M : kMem) (a0 : Nat) (a1 : Nat) : kMetD l g yTM_deleteEntry cTM_deleteEntry 3 none 4 [.ref a0, .ref a1] M (fun r : kMem => (none, r)) (F_TM_deleteEntry N M a0 a1) := by
  refine k_ofD (lv := [(0, .ref a0), (1, .ref a1)]) RTM (by decide) rfl rfl (Nat.le_of_ble_eq_true rfl) ?_
  unfold F_TM_deleteEntry
  refine d_st (fun hX _ => g_aload_n 1 0 (hX _) dTM_deleteEntry_0 rfl rfl) rfl ?_
  refine d_st (fun hX _ => g_dup 2 (hX _) dTM_deleteEntry_1 rfl rfl) rfl ?_
  refine d_g (fun hX _ => e_TM_13 5 (hX _) dTM_deleteEntry_2 rfl) rfl ?_
  refine d_st (fun hX _ => g_iconst 6 (hX _) 1 dTM_deleteEntry_5 rfl kc_i_1) rfl ?_
  refine d_st (fun hX _ => g_iadd 7 (hX _) dTM_deleteEntry_6 rfl) rfl ?_
  refine d_g (fun hX _ => ui_TM_13 10 (hX _) dTM_deleteEntry_7 rfl) rfl ?_
  refine d_klM (fun M1 hM1 => ?_)
  refine d_st (fun hX _ => g_aload_n 11 0 (hX _) dTM_deleteEntry_10 rfl rfl) rfl ?_
  refine d_st (fun hX _ => g_dup 12 (hX _) dTM_deleteEntry_11 rfl rfl) rfl ?_
  refine d_g (fun hX _ => e_TM_7 15 (hX _) dTM_deleteEntry_12 rfl) rfl ?_
  refine d_st (fun hX _ => g_iconst 16 (hX _) 1 dTM_deleteEntry_15 rfl kc_i_1) rfl ?_
  refine d_st (fun hX _ => g_isub 17 (hX _) dTM_deleteEntry_16 rfl) rfl ?_
  refine d_g (fun hX _ => ui_TM_7 20 (hX _) dTM_deleteEntry_17 rfl) rfl ?_
  refine d_klM (fun M2 hM2 => ?_)
  refine d_st (fun hX _ => g_aload_n 21 1 (hX _) dTM_deleteEntry_20 rfl rfl) rfl ?_
  refine d_g (fun hX _ => e_TM_111 24 (hX _) dTM_deleteEntry_21 rfl) rfl ?_
  refine d_if (fun hX _ => g_ifnull 57 27 (hX _) dTM_deleteEntry_24 (by decide) rfl) (fun _ => ?_) (fun _ => ?_)
  · exact k_TM_deleteEntry_57 N M2 a0 a1
  · refine d_st (fun hX _ => g_aload_n 28 1 (hX _) dTM_deleteEntry_27 rfl rfl) rfl ?_
    refine d_g (fun hX _ => e_TM_114 31 (hX _) dTM_deleteEntry_28 rfl) rfl ?_
    refine d_if (fun hX _ => g_ifnull 57 34 (hX _) dTM_deleteEntry_31 (by decide) rfl) (fun _ => ?_) (fun _ => ?_)
    · exact k_TM_deleteEntry_57 N M2 a0 a1
    · refine d_st (fun hX _ => g_aload_n 35 1 (hX _) dTM_deleteEntry_34 rfl rfl) rfl ?_
      refine d_callS 38 (k_TM_successor l g N M2 a1) lk_TM_successor q_1958 (by decide) rfl (Nat.le_of_ble_eq_true rfl) dTM_deleteEntry_35 rfl (fun r18 _ => ?_)
      show GD _ _ _ _ _ [.ref r18] M2
      refine d_st (fun hX _ => g_astore_n 39 2 [(2, .ref r18), (0, .ref a0), (1, .ref a1)] (hX _) dTM_deleteEntry_38 rfl rfl (Nat.le_of_ble_eq_true rfl) rfl) rfl ?_
      refine d_st (fun hX _ => g_aload_n 40 2 (hX _) dTM_deleteEntry_39 rfl rfl) rfl ?_
      refine d_st (fun hX _ => g_aload_n 41 0 (hX _) dTM_deleteEntry_40 rfl rfl) rfl ?_
      refine d_g (fun hX _ => e_TM_105 44 (hX _) dTM_deleteEntry_41 rfl) rfl ?_
      refine d_g (fun hX _ => uk_TM_105 47 (hX _) dTM_deleteEntry_44 rfl) rfl ?_
      refine d_klM (fun M19 hM19 => ?_)
      refine d_st (fun hX _ => g_aload_n 48 2 (hX _) dTM_deleteEntry_47 rfl rfl) rfl ?_
      refine d_st (fun hX _ => g_aload_n 49 0 (hX _) dTM_deleteEntry_48 rfl rfl) rfl ?_
      refine d_g (fun hX _ => e_TM_58 52 (hX _) dTM_deleteEntry_49 rfl) rfl ?_
      refine d_g (fun hX _ => ur_TM_58 55 (hX _) dTM_deleteEntry_52 rfl) rfl ?_
      refine d_klM (fun M20 hM20 => ?_)
      refine d_st (fun hX _ => g_aload_n 56 0 (hX _) dTM_deleteEntry_55 rfl rfl) rfl ?_
      refine d_st (fun hX _ => g_astore_n 57 1 [(1, .ref r18), (2, .ref r18), (0, .ref a0)] (hX _) dTM_deleteEntry_56 rfl rfl (Nat.le_of_ble_eq_true rfl) rfl) rfl ?_
      refine d_st (fun hX _ => g_lv [2, 0] rfl) rfl ?_
      exact k_TM_deleteEntry_57 N M20 a0 r18
