set_option maxRecDepth 100000 in
set_option maxHeartbeats 4000000 in
theorem k_X11_append (l : Launch) (g : kG) (hf : l.flags = flags0) (N : Nat) (M : kMem) (a0 : Nat) (x1 : Int32) (x2 : Int32) (x3 : Int32) (x4 : Int32) (x5 : Int32) : kMetX l g yX11_append cX11_append 7 (some .int) 4 1 6 [.ref a0, .int x1, .int x2, .int x3, .int x4, .int x5] M (kfin (fun v : Int32 => some (.int v))) (F_X11_append N M a0 x1 x2 x3 x4 x5) := by
  refine k_ofX (lv := [(0, .ref a0), (1, .int x1), (2, .int x2), (3, .int x3), (4, .int x4), (5, .int x5)]) RX11 (by decide) rfl rfl (Nat.le_of_ble_eq_true rfl) ?_
  intro p e s m args below meth c hX hr hh
  unfold F_X11_append
  refine g_iload_n 1 1 hX dX11_append_0 rfl rfl ?_
  refine g_callS_ip 4 hX (k_X11_bytesIn l g N M x1) lk_X11_bytesIn q_1138 (by omega) rfl (Nat.le_of_ble_eq_true rfl) (Nat.le_of_ble_eq_true rfl) (Nat.le_of_ble_eq_true rfl) dX11_append_1 rfl (fun r1 => ?_)
  refine g_iload_n 5 2 hX dX11_append_4 rfl rfl ?_
  refine g_callS_ip 8 hX (k_X11_bytesIn l g N M x2) lk_X11_bytesIn q_1138 (by omega) rfl (Nat.le_of_ble_eq_true rfl) (Nat.le_of_ble_eq_true rfl) (Nat.le_of_ble_eq_true rfl) dX11_append_5 rfl (fun r2 => ?_)
  refine g_iadd 9 hX dX11_append_8 rfl ?_
  refine g_iload_n 10 3 hX dX11_append_9 rfl rfl ?_
  refine g_callS_ip 13 hX (k_X11_bytesIn l g N M x3) lk_X11_bytesIn q_1138 (by omega) rfl (Nat.le_of_ble_eq_true rfl) (Nat.le_of_ble_eq_true rfl) (Nat.le_of_ble_eq_true rfl) dX11_append_10 rfl (fun r3 => ?_)
  refine g_iadd 14 hX dX11_append_13 rfl ?_
  refine g_iload 16 4 hX dX11_append_14 rfl rfl ?_
  refine g_callS_ip 19 hX (k_X11_bytesIn l g N M x4) lk_X11_bytesIn q_1138 (by omega) rfl (Nat.le_of_ble_eq_true rfl) (Nat.le_of_ble_eq_true rfl) (Nat.le_of_ble_eq_true rfl) dX11_append_16 rfl (fun r4 => ?_)
  refine g_iadd 20 hX dX11_append_19 rfl ?_
  refine g_iload 22 5 hX dX11_append_20 rfl rfl ?_
  refine g_callS_ip 25 hX (k_X11_bytesIn l g N M x5) lk_X11_bytesIn q_1138 (by omega) rfl (Nat.le_of_ble_eq_true rfl) (Nat.le_of_ble_eq_true rfl) (Nat.le_of_ble_eq_true rfl) dX11_append_22 rfl (fun r5 => ?_)
  refine g_iadd 26 hX dX11_append_25 rfl ?_
  refine g_klI (fun v6 hv6 => ?_)
  refine g_istore 28 6 [(6, .int v6), (0, .ref a0), (1, .int x1), (2, .int x2), (3, .int x3), (4, .int x4), (5, .int x5)] hX dX11_append_26 rfl (Nat.le_of_ble_eq_true rfl) rfl ?_
  refine g_aload_n 29 1 hX dX11_append_28 rfl rfl ?_
  refine r_X11_10 32 hX dX11_append_29 rfl ?_
  refine r_X11_77 35 hX dX11_append_32 rfl ?_
  refine g_iload 37 0 hX dX11_append_35 rfl rfl ?_
  refine g_iadd 38 hX dX11_append_37 rfl ?_
  refine g_sipush 41 hX 800 dX11_append_38 rfl kc_s_800 ?_
  refine g_icmp_le 54 44 hX dX11_append_41 (by decide) rfl (fun _ => ?_) (fun _ => ?_)
  · refine g_aload_n 55 1 hX dX11_append_54 rfl rfl ?_
    refine r_X11_10 58 hX dX11_append_55 rfl ?_
    refine g_iload_n 59 2 hX dX11_append_58 rfl rfl ?_
    refine g_callV_v 62 hX (k_X8_addBytesOf l g N M (kR M a0 0) x1) lk_X8_addBytesOf rfl (ci := 8) rfl (Nat.le_of_ble_eq_true rfl) q_1208 q_1210 (by omega) rfl (Nat.le_of_ble_eq_true rfl) (Nat.le_of_ble_eq_true rfl) (Nat.le_of_ble_eq_true rfl) dX11_append_59 rfl (fun M7 => ?_)
    refine g_aload_n 63 1 hX dX11_append_62 rfl rfl ?_
    refine r_X11_10 66 hX dX11_append_63 rfl ?_
    refine g_iload_n 67 3 hX dX11_append_66 rfl rfl ?_
    refine g_callV_v 70 hX (k_X8_addBytesOf l g N M7 (kR M7 a0 0) x2) lk_X8_addBytesOf rfl (ci := 8) rfl (Nat.le_of_ble_eq_true rfl) q_1208 q_1210 (by omega) rfl (Nat.le_of_ble_eq_true rfl) (Nat.le_of_ble_eq_true rfl) (Nat.le_of_ble_eq_true rfl) dX11_append_67 rfl (fun M8 => ?_)
    refine g_aload_n 71 1 hX dX11_append_70 rfl rfl ?_
    refine r_X11_10 74 hX dX11_append_71 rfl ?_
    refine g_iload_n 75 4 hX dX11_append_74 rfl rfl ?_
    refine g_callV_v 78 hX (k_X8_addBytesOf l g N M8 (kR M8 a0 0) x3) lk_X8_addBytesOf rfl (ci := 8) rfl (Nat.le_of_ble_eq_true rfl) q_1208 q_1210 (by omega) rfl (Nat.le_of_ble_eq_true rfl) (Nat.le_of_ble_eq_true rfl) (Nat.le_of_ble_eq_true rfl) dX11_append_75 rfl (fun M9 => ?_)
    refine g_aload_n 79 1 hX dX11_append_78 rfl rfl ?_
    refine r_X11_10 82 hX dX11_append_79 rfl ?_
    refine g_iload 84 5 hX dX11_append_82 rfl rfl ?_
    refine g_callV_v 87 hX (k_X8_addBytesOf l g N M9 (kR M9 a0 0) x4) lk_X8_addBytesOf rfl (ci := 8) rfl (Nat.le_of_ble_eq_true rfl) q_1208 q_1210 (by omega) rfl (Nat.le_of_ble_eq_true rfl) (Nat.le_of_ble_eq_true rfl) (Nat.le_of_ble_eq_true rfl) dX11_append_84 rfl (fun M10 => ?_)
    refine g_aload_n 88 1 hX dX11_append_87 rfl rfl ?_
    refine r_X11_10 91 hX dX11_append_88 rfl ?_
    refine g_iload 93 6 hX dX11_append_91 rfl rfl ?_
    refine g_callV_v 96 hX (k_X8_addBytesOf l g N M10 (kR M10 a0 0) x5) lk_X8_addBytesOf rfl (ci := 8) rfl (Nat.le_of_ble_eq_true rfl) q_1208 q_1210 (by omega) rfl (Nat.le_of_ble_eq_true rfl) (Nat.le_of_ble_eq_true rfl) (Nat.le_of_ble_eq_true rfl) dX11_append_93 rfl (fun M11 => ?_)
    refine g_aload_n 97 1 hX dX11_append_96 rfl rfl ?_
    refine r_X11_10 100 hX dX11_append_97 rfl ?_
    refine r_X11_77 103 hX dX11_append_100 rfl ?_
    exact g_xr (b0 := ((.inl (kI M11 (kR M11 a0 0) 1), M11) : (Int32 ⊕ Nat) × kMem)) (v0 := (some (.int (kI M11 (kR M11 a0 0) 1)))) (fun b h => by cases h; rfl) (g_iret (b0 := ((.inl (kI M11 (kR M11 a0 0) 1), M11) : (Int32 ⊕ Nat) × kMem)) hX hr rfl (Nat.le_of_ble_eq_true rfl) (Nat.le_of_ble_eq_true rfl) dX11_append_103)
  · exact g_throw3 hX hf hh (i := 17) rfl dX11_append_44 dX11_append_47 dX11_append_48 dX11_append_50 dX11_append_53 (by decide) (by decide) (by decide) (by decide) (Nat.le_of_ble_eq_true rfl) (by decide)
set_option maxRecDepth 100000 in
set_option maxHeartbeats 4000000 in
theorem k_X11_requireRange (l : Launch) (g : kG) (hf : l.flags = flags0) (N : Nat) (M : kMem) (x0 : Int32) (x1 : Int32) (x2 : Int32) : kMetX l g yX11_requireRange cX11_requireRange 3 none 4 1 6 [.int x0, .int x1, .int x2] M (kfin (fun _ : Unit => none)) (F_X11_requireRange N M x0 x1 x2) := by
  refine k_ofX (lv := [(0, .int x0), (1, .int x1), (2, .int x2)]) RX11 (by decide) rfl rfl (Nat.le_of_ble_eq_true rfl) ?_
  intro p e s m args below meth c hX hr hh
  unfold F_X11_requireRange
  refine g_iload_n 1 0 hX dX11_requireRange_0 rfl rfl ?_
  refine g_iload_n 2 1 hX dX11_requireRange_1 rfl rfl ?_
  refine g_icmp_lt 10 5 hX dX11_requireRange_2 (by decide) rfl (fun _ => ?_) (fun _ => ?_)
  · exact g_throwW2 hX hf hh (i := 18) rfl dX11_requireRange_10 dX11_requireRange_13 dX11_requireRange_14 dX11_requireRange_17 dX11_requireRange_20 (by decide) (by decide) (by decide) (by decide) (Nat.le_of_ble_eq_true rfl) (by decide)
  · refine g_iload_n 6 0 hX dX11_requireRange_5 rfl rfl ?_
    refine g_iload_n 7 2 hX dX11_requireRange_6 rfl rfl ?_
    refine g_icmp_le 21 10 hX dX11_requireRange_7 (by decide) rfl (fun _ => ?_) (fun _ => ?_)
    · exact g_xr (b0 := ((.inl (), M) : (Unit ⊕ Nat) × kMem)) (v0 := none) (fun b h => by cases h; rfl) (g_vret (b0 := ((.inl (), M) : (Unit ⊕ Nat) × kMem)) hX hr rfl (Nat.le_of_ble_eq_true rfl) (Nat.le_of_ble_eq_true rfl) dX11_requireRange_21)
    · exact g_throwW2 hX hf hh (i := 18) rfl dX11_requireRange_10 dX11_requireRange_13 dX11_requireRange_14 dX11_requireRange_17 dX11_requireRange_20 (by decide) (by decide) (by decide) (by decide) (Nat.le_of_ble_eq_true rfl) (by decide)
set_option maxRecDepth 100000 in
set_option maxHeartbeats 4000000 in
theorem k_X11_truncate (l : Launch) (g : kG) (hf : l.flags = flags0) (N : Nat) (M : kMem) (a0 : Nat) (x1 : Int32) : kMetX l g yX11_truncate cX11_truncate 2 (some .int) 5 1 6 [.ref a0, .int x1] M (kfin (fun v : Int32 => some (.int v))) (F_X11_truncate N M a0 x1) := by
  refine k_ofX (lv := [(0, .ref a0), (1, .int x1)]) RX11 (by decide) rfl rfl (Nat.le_of_ble_eq_true rfl) ?_
  intro p e s m args below meth c hX hr hh
  unfold F_X11_truncate
  refine g_iload_n 1 1 hX dX11_truncate_0 rfl rfl ?_
  refine g_iconst 2 hX 0 dX11_truncate_1 rfl kc_i_0 ?_
  refine g_aload_n 3 0 hX dX11_truncate_2 rfl rfl ?_
  refine r_X11_10 6 hX dX11_truncate_3 rfl ?_
  refine r_X11_77 9 hX dX11_truncate_6 rfl ?_
  refine g_callSX 12 hX (k_X11_requireRange l g hf N M x1 0 (kI M (kR M a0 0) 1)) lk_X11_requireRange q_1220 (by omega) rfl (Nat.le_of_ble_eq_true rfl) (by decide) (by decide) (fun _ _ => rfl) hh (by decide) (by decide) dX11_truncate_9 rfl (fun r1 M2 => ?_)
  refine g_aload_n 13 0 hX dX11_truncate_12 rfl rfl ?_
  refine r_X11_10 16 hX dX11_truncate_13 rfl ?_
  refine g_iload_n 17 1 hX dX11_truncate_16 rfl rfl ?_
  refine p_X11_77 20 hX dX11_truncate_17 rfl ?_
  refine g_klM (fun M3 hM3 => ?_)
  refine g_iload_n 21 1 hX dX11_truncate_20 rfl rfl ?_
  exact g_xr (b0 := ((.inl x1, M3) : (Int32 ⊕ Nat) × kMem)) (v0 := (some (.int x1))) (fun b h => by cases h; rfl) (g_iret (b0 := ((.inl x1, M3) : (Int32 ⊕ Nat) × kMem)) hX hr rfl (Nat.le_of_ble_eq_true rfl) (Nat.le_of_ble_eq_true rfl) dX11_truncate_21)
set_option maxRecDepth 100000 in
set_option maxHeartbeats 4000000 in
theorem k_X11_existingBoard (l : Launch) (g : kG) (hf : l.flags = flags0) (N : Nat) (M : kMem) (a0 : Nat) (x1 : Int32) : kMetX l g yX11_existingBoard cX11_existingBoard 3 (some (.object "SeesawMarket$Board")) 4 1 6 [.ref a0, .int x1] M (kfin (fun v : Nat => some (.ref v))) (F_X11_existingBoard N M a0 x1) := by
  refine k_ofX (lv := [(0, .ref a0), (1, .int x1)]) RX11 (by decide) rfl rfl (Nat.le_of_ble_eq_true rfl) ?_
  intro p e s m args below meth c hX hr hh
  unfold F_X11_existingBoard
  refine g_aload_n 1 0 hX dX11_existingBoard_0 rfl rfl ?_
  refine r_X11_38 4 hX dX11_existingBoard_1 rfl ?_
  refine g_iload_n 5 1 hX dX11_existingBoard_4 rfl rfl ?_
  refine g_callV_rp 8 hX (k_X4_boardNumbered l g N M (kR M a0 4) x1) lk_X4_boardNumbered rfl (ci := 4) rfl (Nat.le_of_ble_eq_true rfl) q_1251 q_662 (by omega) rfl (Nat.le_of_ble_eq_true rfl) (Nat.le_of_ble_eq_true rfl) (Nat.le_of_ble_eq_true rfl) dX11_existingBoard_5 rfl (fun r1 => ?_)
  refine g_astore_n 9 2 [(2, .ref r1), (0, .ref a0), (1, .int x1)] hX dX11_existingBoard_8 rfl rfl (Nat.le_of_ble_eq_true rfl) rfl ?_
  refine g_aload_n 10 0 hX dX11_existingBoard_9 rfl rfl ?_
  refine g_ifnonnull 24 13 hX dX11_existingBoard_10 (by decide) rfl (fun _ => ?_) (fun _ => ?_)
  · refine g_aload_n 25 0 hX dX11_existingBoard_24 rfl rfl ?_
    exact g_xr (b0 := ((.inl r1, M) : (Nat ⊕ Nat) × kMem)) (v0 := (some (.ref r1))) (fun b h => by cases h; rfl) (g_aret (b0 := ((.inl r1, M) : (Nat ⊕ Nat) × kMem)) hX hr (Or.inl ⟨_, rfl⟩) rfl (Nat.le_of_ble_eq_true rfl) (Nat.le_of_ble_eq_true rfl) dX11_existingBoard_25)
  · exact g_throwW1 hX hf hh (i := 19) rfl dX11_existingBoard_13 dX11_existingBoard_16 dX11_existingBoard_17 dX11_existingBoard_20 dX11_existingBoard_23 (by decide) (by decide) (by decide) (by decide) (Nat.le_of_ble_eq_true rfl) (by decide)
set_option maxRecDepth 100000 in
set_option maxHeartbeats 4000000 in
theorem k_X11_armLength (l : Launch) (g : kG) (hf : l.flags = flags0) (N : Nat) (M : kMem) (a0 : Nat) (x1 : Int32) : kMetX l g yX11_armLength cX11_armLength 2 (some .int) 5 1 6 [.ref a0, .int x1] M (kfin (fun v : Int32 => some (.int v))) (F_X11_armLength N M a0 x1) := by
  refine k_ofX (lv := [(0, .ref a0), (1, .int x1)]) RX11 (by decide) rfl rfl (Nat.le_of_ble_eq_true rfl) ?_
  intro p e s m args below meth c hX hr hh
  unfold F_X11_armLength
  refine g_aload_n 1 0 hX dX11_armLength_0 rfl rfl ?_
  refine g_iload_n 2 1 hX dX11_armLength_1 rfl rfl ?_
  refine g_callVX 5 hX (k_X11_existingBoard l g hf N M a0 x1) lk_X11_existingBoard rfl (ci := 11) rfl (Nat.le_of_ble_eq_true rfl) q_1247 q_31 (by omega) rfl (Nat.le_of_ble_eq_true rfl) (by decide) (by decide) (fun _ _ => rfl) hh (by decide) (by decide) dX11_armLength_2 rfl (fun r1 M2 => ?_)
  refine r_X11_151 8 hX dX11_armLength_5 rfl ?_
  exact g_xr (b0 := ((.inl (kI M2 r1 1), M2) : (Int32 ⊕ Nat) × kMem)) (v0 := (some (.int (kI M2 r1 1)))) (fun b h => by cases h; rfl) (g_iret (b0 := ((.inl (kI M2 r1 1), M2) : (Int32 ⊕ Nat) × kMem)) hX hr rfl (Nat.le_of_ble_eq_true rfl) (Nat.le_of_ble_eq_true rfl) dX11_armLength_8)
set_option maxRecDepth 100000 in
set_option maxHeartbeats 4000000 in
theorem k_X11_stiffness (l : Launch) (g : kG) (hf : l.flags = flags0) (N : Nat) (M : kMem) (a0 : Nat) (x1 : Int32) : kMetX l g yX11_stiffness cX11_stiffness 2 (some .int) 5 1 6 [.ref a0, .int x1] M (kfin (fun v : Int32 => some (.int v))) (F_X11_stiffness N M a0 x1) := by
  refine k_ofX (lv := [(0, .ref a0), (1, .int x1)]) RX11 (by decide) rfl rfl (Nat.le_of_ble_eq_true rfl) ?_
  intro p e s m args below meth c hX hr hh
  unfold F_X11_stiffness
  refine g_aload_n 1 0 hX dX11_stiffness_0 rfl rfl ?_
  refine g_iload_n 2 1 hX dX11_stiffness_1 rfl rfl ?_
  refine g_callVX 5 hX (k_X11_existingBoard l g hf N M a0 x1) lk_X11_existingBoard rfl (ci := 11) rfl (Nat.le_of_ble_eq_true rfl) q_1247 q_31 (by omega) rfl (Nat.le_of_ble_eq_true rfl) (by decide) (by decide) (fun _ _ => rfl) hh (by decide) (by decide) dX11_stiffness_2 rfl (fun r1 M2 => ?_)
  refine r_X11_156 8 hX dX11_stiffness_5 rfl ?_
  exact g_xr (b0 := ((.inl (kI M2 r1 2), M2) : (Int32 ⊕ Nat) × kMem)) (v0 := (some (.int (kI M2 r1 2)))) (fun b h => by cases h; rfl) (g_iret (b0 := ((.inl (kI M2 r1 2), M2) : (Int32 ⊕ Nat) × kMem)) hX hr rfl (Nat.le_of_ble_eq_true rfl) (Nat.le_of_ble_eq_true rfl) dX11_stiffness_8)
set_option maxRecDepth 100000 in
set_option maxHeartbeats 4000000 in
theorem k_X11_torque (l : Launch) (g : kG) (hf : l.flags = flags0) (N : Nat) (M : kMem) (a0 : Nat) (x1 : Int32) : kMetX l g yX11_torque cX11_torque 2 (some .int) 5 1 6 [.ref a0, .int x1] M (kfin (fun v : Int32 => some (.int v))) (F_X11_torque N M a0 x1) := by
  refine k_ofX (lv := [(0, .ref a0), (1, .int x1)]) RX11 (by decide) rfl rfl (Nat.le_of_ble_eq_true rfl) ?_
  intro p e s m args below meth c hX hr hh
  unfold F_X11_torque
  refine g_aload_n 1 0 hX dX11_torque_0 rfl rfl ?_
  refine r_X11_38 4 hX dX11_torque_1 rfl ?_
  refine g_aload_n 5 0 hX dX11_torque_4 rfl rfl ?_
  refine g_iload_n 6 1 hX dX11_torque_5 rfl rfl ?_
  refine g_callVX 9 hX (k_X11_existingBoard l g hf N M a0 x1) lk_X11_existingBoard rfl (ci := 11) rfl (Nat.le_of_ble_eq_true rfl) q_1247 q_31 (by omega) rfl (Nat.le_of_ble_eq_true rfl) (by decide) (by decide) (fun _ _ => rfl) hh (by decide) (by decide) dX11_torque_6 rfl (fun r1 M2 => ?_)
  refine g_callV_ip 12 hX (k_X4_torqueOn l g N M2 (kR M a0 4) r1) lk_X4_torqueOn rfl (ci := 4) rfl (Nat.le_of_ble_eq_true rfl) q_1282 q_864 (by omega) rfl (Nat.le_of_ble_eq_true rfl) (Nat.le_of_ble_eq_true rfl) (Nat.le_of_ble_eq_true rfl) dX11_torque_9 rfl (fun r3 => ?_)
  exact g_xr (b0 := ((.inl r3, M2) : (Int32 ⊕ Nat) × kMem)) (v0 := (some (.int r3))) (fun b h => by cases h; rfl) (g_iret (b0 := ((.inl r3, M2) : (Int32 ⊕ Nat) × kMem)) hX hr rfl (Nat.le_of_ble_eq_true rfl) (Nat.le_of_ble_eq_true rfl) dX11_torque_12)
set_option maxRecDepth 100000 in
set_option maxHeartbeats 4000000 in
theorem k_X11_tilt (l : Launch) (g : kG) (hf : l.flags = flags0) (N : Nat) (M : kMem) (a0 : Nat) (x1 : Int32) : kMetX l g yX11_tilt cX11_tilt 3 (some .int) 5 1 6 [.ref a0, .int x1] M (kfin (fun v : Int32 => some (.int v))) (F_X11_tilt N M a0 x1) := by
  refine k_ofX (lv := [(0, .ref a0), (1, .int x1)]) RX11 (by decide) rfl rfl (Nat.le_of_ble_eq_true rfl) ?_
  intro p e s m args below meth c hX hr hh
  unfold F_X11_tilt
  refine g_aload_n 1 0 hX dX11_tilt_0 rfl rfl ?_
  refine g_iload_n 2 1 hX dX11_tilt_1 rfl rfl ?_
  refine g_callVX 5 hX (k_X11_existingBoard l g hf N M a0 x1) lk_X11_existingBoard rfl (ci := 11) rfl (Nat.le_of_ble_eq_true rfl) q_1247 q_31 (by omega) rfl (Nat.le_of_ble_eq_true rfl) (by decide) (by decide) (fun _ _ => rfl) hh (by decide) (by decide) dX11_tilt_2 rfl (fun r1 M2 => ?_)
  refine g_astore_n 6 2 [(2, .ref r1), (0, .ref a0), (1, .int x1)] hX dX11_tilt_5 rfl rfl (Nat.le_of_ble_eq_true rfl) rfl ?_
  refine g_aload_n 7 0 hX dX11_tilt_6 rfl rfl ?_
  refine g_aload_n 8 1 hX dX11_tilt_7 rfl rfl ?_
  refine r_X11_38 11 hX dX11_tilt_8 rfl ?_
  refine g_aload_n 12 0 hX dX11_tilt_11 rfl rfl ?_
  refine g_callV_ip 15 hX (k_X4_torqueOn l g N M2 (kR M2 a0 4) r1) lk_X4_torqueOn rfl (ci := 4) rfl (Nat.le_of_ble_eq_true rfl) q_1282 q_864 (by omega) rfl (Nat.le_of_ble_eq_true rfl) (Nat.le_of_ble_eq_true rfl) (Nat.le_of_ble_eq_true rfl) dX11_tilt_12 rfl (fun r3 => ?_)
  refine g_callV_ip 18 hX (k_X0_tiltUnder l g N M2 r1 r3) lk_X0_tiltUnder rfl (ci := 0) rfl (Nat.le_of_ble_eq_true rfl) q_1290 q_868 (by omega) rfl (Nat.le_of_ble_eq_true rfl) (Nat.le_of_ble_eq_true rfl) (Nat.le_of_ble_eq_true rfl) dX11_tilt_15 rfl (fun r4 => ?_)
  exact g_xr (b0 := ((.inl r4, M2) : (Int32 ⊕ Nat) × kMem)) (v0 := (some (.int r4))) (fun b h => by cases h; rfl) (g_iret (b0 := ((.inl r4, M2) : (Int32 ⊕ Nat) × kMem)) hX hr rfl (Nat.le_of_ble_eq_true rfl) (Nat.le_of_ble_eq_true rfl) dX11_tilt_18)
set_option maxRecDepth 100000 in
set_option maxHeartbeats 4000000 in
theorem k_X11_isBalanced (l : Launch) (g : kG) (hf : l.flags = flags0) (N : Nat) (M : kMem) (a0 : Nat) (x1 : Int32) : kMetX l g yX11_isBalanced cX11_isBalanced 2 (some .boolean) 5 1 6 [.ref a0, .int x1] M (kfin (fun v : Int32 => some (.int v))) (F_X11_isBalanced N M a0 x1) := by
  refine k_ofX (lv := [(0, .ref a0), (1, .int x1)]) RX11 (by decide) rfl rfl (Nat.le_of_ble_eq_true rfl) ?_
  intro p e s m args below meth c hX hr hh
  unfold F_X11_isBalanced
  refine g_aload_n 1 0 hX dX11_isBalanced_0 rfl rfl ?_
  refine r_X11_38 4 hX dX11_isBalanced_1 rfl ?_
  refine g_aload_n 5 0 hX dX11_isBalanced_4 rfl rfl ?_
  refine g_iload_n 6 1 hX dX11_isBalanced_5 rfl rfl ?_
  refine g_callVX 9 hX (k_X11_existingBoard l g hf N M a0 x1) lk_X11_existingBoard rfl (ci := 11) rfl (Nat.le_of_ble_eq_true rfl) q_1247 q_31 (by omega) rfl (Nat.le_of_ble_eq_true rfl) (by decide) (by decide) (fun _ _ => rfl) hh (by decide) (by decide) dX11_isBalanced_6 rfl (fun r1 M2 => ?_)
  refine g_callV_ip 12 hX (k_X4_torqueOn l g N M2 (kR M a0 4) r1) lk_X4_torqueOn rfl (ci := 4) rfl (Nat.le_of_ble_eq_true rfl) q_1282 q_864 (by omega) rfl (Nat.le_of_ble_eq_true rfl) (Nat.le_of_ble_eq_true rfl) (Nat.le_of_ble_eq_true rfl) dX11_isBalanced_9 rfl (fun r3 => ?_)
  refine g_if_ne 19 15 hX dX11_isBalanced_12 (by decide) rfl (fun _ => ?_) (fun _ => ?_)
  · refine g_iconst 20 hX 0 dX11_isBalanced_19 rfl kc_i_0 ?_
    exact g_xr (b0 := ((.inl 0, M2) : (Int32 ⊕ Nat) × kMem)) (v0 := (some (.int 0))) (fun b h => by cases h; rfl) (g_zretL (b0 := ((.inl 0, M2) : (Int32 ⊕ Nat) × kMem)) hX hr rfl rfl (Nat.le_of_ble_eq_true rfl) (Nat.le_of_ble_eq_true rfl) dX11_isBalanced_20)
  · refine g_iconst 16 hX 1 dX11_isBalanced_15 rfl kc_i_1 ?_
    refine g_goto 20 hX dX11_isBalanced_16 (by decide) ?_
    exact g_xr (b0 := ((.inl 1, M2) : (Int32 ⊕ Nat) × kMem)) (v0 := (some (.int 1))) (fun b h => by cases h; rfl) (g_zretL (b0 := ((.inl 1, M2) : (Int32 ⊕ Nat) × kMem)) hX hr rfl rfl (Nat.le_of_ble_eq_true rfl) (Nat.le_of_ble_eq_true rfl) dX11_isBalanced_20)
set_option maxRecDepth 100000 in
set_option maxHeartbeats 4000000 in
theorem k_X11_boardWithSeat (l : Launch) (g : kG) (hf : l.flags = flags0) (N : Nat) (M : kMem) (a0 : Nat) (x1 : Int32) (x2 : Int32) : kMetX l g yX11_boardWithSeat cX11_boardWithSeat 4 (some (.object "SeesawMarket$Board")) 5 2 12 [.ref a0, .int x1, .int x2] M (kfin (fun v : Nat => some (.ref v))) (F_X11_boardWithSeat N M a0 x1 x2) := by
  refine k_ofX (lv := [(0, .ref a0), (1, .int x1), (2, .int x2)]) RX11 (by decide) rfl rfl (Nat.le_of_ble_eq_true rfl) ?_
  intro p e s m args below meth c hX hr hh
  unfold F_X11_boardWithSeat
  refine g_aload_n 1 0 hX dX11_boardWithSeat_0 rfl rfl ?_
  refine g_iload_n 2 1 hX dX11_boardWithSeat_1 rfl rfl ?_
  refine g_callVX 5 hX (k_X11_existingBoard l g hf N M a0 x1) lk_X11_existingBoard rfl (ci := 11) rfl (Nat.le_of_ble_eq_true rfl) q_1247 q_31 (by omega) rfl (Nat.le_of_ble_eq_true rfl) (by decide) (by decide) (fun _ _ => rfl) hh (by decide) (by decide) dX11_boardWithSeat_2 rfl (fun r1 M2 => ?_)
  refine g_astore_n 6 3 [(3, .ref r1), (0, .ref a0), (1, .int x1), (2, .int x2)] hX dX11_boardWithSeat_5 rfl rfl (Nat.le_of_ble_eq_true rfl) rfl ?_
  refine g_aload_n 7 0 hX dX11_boardWithSeat_6 rfl rfl ?_
  refine g_iload_n 8 3 hX dX11_boardWithSeat_7 rfl rfl ?_
  refine g_callV_ip 11 hX (k_X0_hasSeat l g N M2 r1 x2) lk_X0_hasSeat rfl (ci := 0) rfl (Nat.le_of_ble_eq_true rfl) q_1309 q_676 (by omega) rfl (Nat.le_of_ble_eq_true rfl) (Nat.le_of_ble_eq_true rfl) (Nat.le_of_ble_eq_true rfl) dX11_boardWithSeat_8 rfl (fun r3 => ?_)
  refine g_if_ne 25 14 hX dX11_boardWithSeat_11 (by decide) rfl (fun _ => ?_) (fun _ => ?_)
  · refine g_aload_n 26 0 hX dX11_boardWithSeat_25 rfl rfl ?_
    exact g_xr (b0 := ((.inl r1, M2) : (Nat ⊕ Nat) × kMem)) (v0 := (some (.ref r1))) (fun b h => by cases h; rfl) (g_aret (b0 := ((.inl r1, M2) : (Nat ⊕ Nat) × kMem)) hX hr (Or.inl ⟨_, rfl⟩) rfl (Nat.le_of_ble_eq_true rfl) (Nat.le_of_ble_eq_true rfl) dX11_boardWithSeat_26)
  · exact g_throwW1 hX hf hh (i := 20) rfl dX11_boardWithSeat_14 dX11_boardWithSeat_17 dX11_boardWithSeat_18 dX11_boardWithSeat_21 dX11_boardWithSeat_24 (by decide) (by decide) (by decide) (by decide) (Nat.le_of_ble_eq_true rfl) (by decide)
set_option maxRecDepth 100000 in
set_option maxHeartbeats 4000000 in
theorem k_X11_seatOwner (l : Launch) (g : kG) (hf : l.flags = flags0) (N : Nat) (M : kMem) (a0 : Nat) (x1 : Int32) (x2 : Int32) : kMetX l g yX11_seatOwner cX11_seatOwner 3 (some .int) 6 2 12 [.ref a0, .int x1, .int x2] M (kfin (fun v : Int32 => some (.int v))) (F_X11_seatOwner N M a0 x1 x2) := by
  refine k_ofX (lv := [(0, .ref a0), (1, .int x1), (2, .int x2)]) RX11 (by decide) rfl rfl (Nat.le_of_ble_eq_true rfl) ?_
  intro p e s m args below meth c hX hr hh
  unfold F_X11_seatOwner
  refine g_aload_n 1 0 hX dX11_seatOwner_0 rfl rfl ?_
  refine g_iload_n 2 1 hX dX11_seatOwner_1 rfl rfl ?_
  refine g_iload_n 3 2 hX dX11_seatOwner_2 rfl rfl ?_
  refine g_callVX 6 hX (k_X11_boardWithSeat l g hf N M a0 x1 x2) lk_X11_boardWithSeat rfl (ci := 11) rfl (Nat.le_of_ble_eq_true rfl) q_1305 q_32 (by omega) rfl (Nat.le_of_ble_eq_true rfl) (by decide) (by decide) (fun _ _ => rfl) hh (by decide) (by decide) dX11_seatOwner_3 rfl (fun r1 M2 => ?_)
  refine g_iload_n 7 2 hX dX11_seatOwner_6 rfl rfl ?_
  refine g_callV_ip 10 hX (k_X0_ownerAt l g N M2 r1 x2) lk_X0_ownerAt rfl (ci := 0) rfl (Nat.le_of_ble_eq_true rfl) q_1311 q_680 (by omega) rfl (Nat.le_of_ble_eq_true rfl) (Nat.le_of_ble_eq_true rfl) (Nat.le_of_ble_eq_true rfl) dX11_seatOwner_7 rfl (fun r3 => ?_)
  exact g_xr (b0 := ((.inl r3, M2) : (Int32 ⊕ Nat) × kMem)) (v0 := (some (.int r3))) (fun b h => by cases h; rfl) (g_iret (b0 := ((.inl r3, M2) : (Int32 ⊕ Nat) × kMem)) hX hr rfl (Nat.le_of_ble_eq_true rfl) (Nat.le_of_ble_eq_true rfl) dX11_seatOwner_10)
set_option maxRecDepth 100000 in
set_option maxHeartbeats 4000000 in
theorem k_X11_seatHeight (l : Launch) (g : kG) (hf : l.flags = flags0) (N : Nat) (M : kMem) (a0 : Nat) (x1 : Int32) (x2 : Int32) : kMetX l g yX11_seatHeight cX11_seatHeight 3 (some .int) 6 2 12 [.ref a0, .int x1, .int x2] M (kfin (fun v : Int32 => some (.int v))) (F_X11_seatHeight N M a0 x1 x2) := by
  refine k_ofX (lv := [(0, .ref a0), (1, .int x1), (2, .int x2)]) RX11 (by decide) rfl rfl (Nat.le_of_ble_eq_true rfl) ?_
  intro p e s m args below meth c hX hr hh
  unfold F_X11_seatHeight
  refine g_aload_n 1 0 hX dX11_seatHeight_0 rfl rfl ?_
  refine r_X11_38 4 hX dX11_seatHeight_1 rfl ?_
  refine g_aload_n 5 0 hX dX11_seatHeight_4 rfl rfl ?_
  refine g_iload_n 6 1 hX dX11_seatHeight_5 rfl rfl ?_
  refine g_iload_n 7 2 hX dX11_seatHeight_6 rfl rfl ?_
  refine g_callVX 10 hX (k_X11_boardWithSeat l g hf N M a0 x1 x2) lk_X11_boardWithSeat rfl (ci := 11) rfl (Nat.le_of_ble_eq_true rfl) q_1305 q_32 (by omega) rfl (Nat.le_of_ble_eq_true rfl) (by decide) (by decide) (fun _ _ => rfl) hh (by decide) (by decide) dX11_seatHeight_7 rfl (fun r1 M2 => ?_)
  refine g_iload_n 11 2 hX dX11_seatHeight_10 rfl rfl ?_
  refine g_callV_ip 14 hX (k_X4_heightOn l g N M2 (kR M a0 4) r1 x2) lk_X4_heightOn rfl (ci := 4) rfl (Nat.le_of_ble_eq_true rfl) q_1319 q_860 (by omega) rfl (Nat.le_of_ble_eq_true rfl) (Nat.le_of_ble_eq_true rfl) (Nat.le_of_ble_eq_true rfl) dX11_seatHeight_11 rfl (fun r3 => ?_)
  exact g_xr (b0 := ((.inl r3, M2) : (Int32 ⊕ Nat) × kMem)) (v0 := (some (.int r3))) (fun b h => by cases h; rfl) (g_iret (b0 := ((.inl r3, M2) : (Int32 ⊕ Nat) × kMem)) hX hr rfl (Nat.le_of_ble_eq_true rfl) (Nat.le_of_ble_eq_true rfl) dX11_seatHeight_14)
set_option maxRecDepth 100000 in
set_option maxHeartbeats 4000000 in
theorem k_X11_seatPrice (l : Launch) (g : kG) (hf : l.flags = flags0) (N : Nat) (M : kMem) (a0 : Nat) (x1 : Int32) (x2 : Int32) : kMetX l g yX11_seatPrice cX11_seatPrice 3 (some .int) 6 2 12 [.ref a0, .int x1, .int x2] M (kfin (fun v : Int32 => some (.int v))) (F_X11_seatPrice N M a0 x1 x2) := by
  refine k_ofX (lv := [(0, .ref a0), (1, .int x1), (2, .int x2)]) RX11 (by decide) rfl rfl (Nat.le_of_ble_eq_true rfl) ?_
  intro p e s m args below meth c hX hr hh
  unfold F_X11_seatPrice
  refine g_aload_n 1 0 hX dX11_seatPrice_0 rfl rfl ?_
  refine r_X11_38 4 hX dX11_seatPrice_1 rfl ?_
  refine g_aload_n 5 0 hX dX11_seatPrice_4 rfl rfl ?_
  refine g_iload_n 6 1 hX dX11_seatPrice_5 rfl rfl ?_
  refine g_iload_n 7 2 hX dX11_seatPrice_6 rfl rfl ?_
  refine g_callVX 10 hX (k_X11_boardWithSeat l g hf N M a0 x1 x2) lk_X11_boardWithSeat rfl (ci := 11) rfl (Nat.le_of_ble_eq_true rfl) q_1305 q_32 (by omega) rfl (Nat.le_of_ble_eq_true rfl) (by decide) (by decide) (fun _ _ => rfl) hh (by decide) (by decide) dX11_seatPrice_7 rfl (fun r1 M2 => ?_)
  refine g_iload_n 11 2 hX dX11_seatPrice_10 rfl rfl ?_
  refine g_callV_ip 14 hX (k_X4_priceOn l g N M2 (kR M a0 4) r1 x2) lk_X4_priceOn rfl (ci := 4) rfl (Nat.le_of_ble_eq_true rfl) q_1327 q_853 (by omega) rfl (Nat.le_of_ble_eq_true rfl) (Nat.le_of_ble_eq_true rfl) (Nat.le_of_ble_eq_true rfl) dX11_seatPrice_11 rfl (fun r3 => ?_)
  exact g_xr (b0 := ((.inl r3, M2) : (Int32 ⊕ Nat) × kMem)) (v0 := (some (.int r3))) (fun b h => by cases h; rfl) (g_iret (b0 := ((.inl r3, M2) : (Int32 ⊕ Nat) × kMem)) hX hr rfl (Nat.le_of_ble_eq_true rfl) (Nat.le_of_ble_eq_true rfl) dX11_seatPrice_14)
set_option maxRecDepth 100000 in
set_option maxHeartbeats 4000000 in
theorem k_X11_balancingSeat (l : Launch) (g : kG) (hf : l.flags = flags0) (N : Nat) (M : kMem) (a0 : Nat) (x1 : Int32) (x2 : Int32) : kMetX l g yX11_balancingSeat cX11_balancingSeat 4 (some .int) 5 2 12 [.ref a0, .int x1, .int x2] M (kfin (fun v : Int32 => some (.int v))) (F_X11_balancingSeat N M a0 x1 x2) := by
  refine k_ofX (lv := [(0, .ref a0), (1, .int x1), (2, .int x2)]) RX11 (by decide) rfl rfl (Nat.le_of_ble_eq_true rfl) ?_
  intro p e s m args below meth c hX hr hh
  unfold F_X11_balancingSeat
  refine g_aload_n 1 0 hX dX11_balancingSeat_0 rfl rfl ?_
  refine g_iload_n 2 1 hX dX11_balancingSeat_1 rfl rfl ?_
  refine g_callVX 5 hX (k_X11_existingBoard l g hf N M a0 x1) lk_X11_existingBoard rfl (ci := 11) rfl (Nat.le_of_ble_eq_true rfl) q_1247 q_31 (by omega) rfl (Nat.le_of_ble_eq_true rfl) (by decide) (by decide) (fun _ _ => rfl) hh (by decide) (by decide) dX11_balancingSeat_2 rfl (fun r1 M2 => ?_)
  refine g_astore_n 6 3 [(3, .ref r1), (0, .ref a0), (1, .int x1), (2, .int x2)] hX dX11_balancingSeat_5 rfl rfl (Nat.le_of_ble_eq_true rfl) rfl ?_
  refine g_iload_n 7 3 hX dX11_balancingSeat_6 rfl rfl ?_
  refine g_iconst 8 hX 1 dX11_balancingSeat_7 rfl kc_i_1 ?_
  refine g_bipush 10 hX 99 dX11_balancingSeat_8 rfl kc_b_99 ?_
  refine g_callSX 13 hX (k_X11_requireRange l g hf N M2 x2 1 99) lk_X11_requireRange q_1220 (by omega) rfl (Nat.le_of_ble_eq_true rfl) (by decide) (by decide) (fun _ _ => rfl) hh (by decide) (by decide) dX11_balancingSeat_10 rfl (fun r3 M4 => ?_)
  refine g_aload_n 14 1 hX dX11_balancingSeat_13 rfl rfl ?_
  refine r_X11_38 17 hX dX11_balancingSeat_14 rfl ?_
  refine g_aload_n 18 0 hX dX11_balancingSeat_17 rfl rfl ?_
  refine g_iload_n 19 3 hX dX11_balancingSeat_18 rfl rfl ?_
  refine g_callV_ip 22 hX (k_X4_mostBalancingSeat l g N M4 (kR M4 a0 4) r1 x2) lk_X4_mostBalancingSeat rfl (ci := 4) rfl (Nat.le_of_ble_eq_true rfl) q_1335 q_1337 (by omega) rfl (Nat.le_of_ble_eq_true rfl) (Nat.le_of_ble_eq_true rfl) (Nat.le_of_ble_eq_true rfl) dX11_balancingSeat_19 rfl (fun r5 => ?_)
  exact g_xr (b0 := ((.inl r5, M4) : (Int32 ⊕ Nat) × kMem)) (v0 := (some (.int r5))) (fun b h => by cases h; rfl) (g_iret (b0 := ((.inl r5, M4) : (Int32 ⊕ Nat) × kMem)) hX hr rfl (Nat.le_of_ble_eq_true rfl) (Nat.le_of_ble_eq_true rfl) dX11_balancingSeat_22)
set_option maxRecDepth 100000 in
set_option maxHeartbeats 4000000 in
theorem k_X11_existingTrader (l : Launch) (g : kG) (hf : l.flags = flags0) (N : Nat) (M : kMem) (a0 : Nat) (x1 : Int32) : kMetX l g yX11_existingTrader cX11_existingTrader 3 (some (.object "SeesawMarket$Trader")) 4 1 6 [.ref a0, .int x1] M (kfin (fun v : Nat => some (.ref v))) (F_X11_existingTrader N M a0 x1) := by
  refine k_ofX (lv := [(0, .ref a0), (1, .int x1)]) RX11 (by decide) rfl rfl (Nat.le_of_ble_eq_true rfl) ?_
  intro p e s m args below meth c hX hr hh
  unfold F_X11_existingTrader
  refine g_aload_n 1 0 hX dX11_existingTrader_0 rfl rfl ?_
  refine r_X11_38 4 hX dX11_existingTrader_1 rfl ?_
  refine g_iload_n 5 1 hX dX11_existingTrader_4 rfl rfl ?_
  refine g_callV_rp 8 hX (k_X4_traderNumbered l g N M (kR M a0 4) x1) lk_X4_traderNumbered rfl (ci := 4) rfl (Nat.le_of_ble_eq_true rfl) q_1350 q_980 (by omega) rfl (Nat.le_of_ble_eq_true rfl) (Nat.le_of_ble_eq_true rfl) (Nat.le_of_ble_eq_true rfl) dX11_existingTrader_5 rfl (fun r1 => ?_)
  refine g_astore_n 9 2 [(2, .ref r1), (0, .ref a0), (1, .int x1)] hX dX11_existingTrader_8 rfl rfl (Nat.le_of_ble_eq_true rfl) rfl ?_
  refine g_aload_n 10 0 hX dX11_existingTrader_9 rfl rfl ?_
  refine g_ifnonnull 24 13 hX dX11_existingTrader_10 (by decide) rfl (fun _ => ?_) (fun _ => ?_)
  · refine g_aload_n 25 0 hX dX11_existingTrader_24 rfl rfl ?_
    exact g_xr (b0 := ((.inl r1, M) : (Nat ⊕ Nat) × kMem)) (v0 := (some (.ref r1))) (fun b h => by cases h; rfl) (g_aret (b0 := ((.inl r1, M) : (Nat ⊕ Nat) × kMem)) hX hr (Or.inl ⟨_, rfl⟩) rfl (Nat.le_of_ble_eq_true rfl) (Nat.le_of_ble_eq_true rfl) dX11_existingTrader_25)
  · exact g_throwW1 hX hf hh (i := 21) rfl dX11_existingTrader_13 dX11_existingTrader_16 dX11_existingTrader_17 dX11_existingTrader_20 dX11_existingTrader_23 (by decide) (by decide) (by decide) (by decide) (Nat.le_of_ble_eq_true rfl) (by decide)
set_option maxRecDepth 100000 in
set_option maxHeartbeats 4000000 in
theorem k_X11_nameLetter (l : Launch) (g : kG) (hf : l.flags = flags0) (N : Nat) (M : kMem) (a0 : Nat) (x1 : Int32) (x2 : Int32) : kMetX l g yX11_nameLetter cX11_nameLetter 3 (some .int) 5 1 6 [.ref a0, .int x1, .int x2] M (kfin (fun v : Int32 => some (.int v))) (F_X11_nameLetter N M a0 x1 x2) := by
  refine k_ofX (lv := [(0, .ref a0), (1, .int x1), (2, .int x2)]) RX11 (by decide) rfl rfl (Nat.le_of_ble_eq_true rfl) ?_
  intro p e s m args below meth c hX hr hh
  unfold F_X11_nameLetter
  refine g_aload_n 1 0 hX dX11_nameLetter_0 rfl rfl ?_
  refine g_iload_n 2 1 hX dX11_nameLetter_1 rfl rfl ?_
  refine g_callVX 5 hX (k_X11_existingTrader l g hf N M a0 x1) lk_X11_existingTrader rfl (ci := 11) rfl (Nat.le_of_ble_eq_true rfl) q_1346 q_33 (by omega) rfl (Nat.le_of_ble_eq_true rfl) (by decide) (by decide) (fun _ _ => rfl) hh (by decide) (by decide) dX11_nameLetter_2 rfl (fun r1 M2 => ?_)
  refine r_X11_203 8 hX dX11_nameLetter_5 rfl ?_
  refine g_iload_n 9 2 hX dX11_nameLetter_8 rfl rfl ?_
  refine g_callS_ip 12 hX (k_X11_letterOf l g N M2 (kJ M2 r1 1) x2) lk_X11_letterOf q_1352 (by omega) rfl (Nat.le_of_ble_eq_true rfl) (Nat.le_of_ble_eq_true rfl) (Nat.le_of_ble_eq_true rfl) dX11_nameLetter_9 rfl (fun r3 => ?_)
  exact g_xr (b0 := ((.inl r3, M2) : (Int32 ⊕ Nat) × kMem)) (v0 := (some (.int r3))) (fun b h => by cases h; rfl) (g_iret (b0 := ((.inl r3, M2) : (Int32 ⊕ Nat) × kMem)) hX hr rfl (Nat.le_of_ble_eq_true rfl) (Nat.le_of_ble_eq_true rfl) dX11_nameLetter_12)
set_option maxRecDepth 100000 in
set_option maxHeartbeats 4000000 in
theorem k_X11_weightOf (l : Launch) (g : kG) (hf : l.flags = flags0) (N : Nat) (M : kMem) (a0 : Nat) (x1 : Int32) : kMetX l g yX11_weightOf cX11_weightOf 2 (some .int) 5 1 6 [.ref a0, .int x1] M (kfin (fun v : Int32 => some (.int v))) (F_X11_weightOf N M a0 x1) := by
  refine k_ofX (lv := [(0, .ref a0), (1, .int x1)]) RX11 (by decide) rfl rfl (Nat.le_of_ble_eq_true rfl) ?_
  intro p e s m args below meth c hX hr hh
  unfold F_X11_weightOf
  refine g_aload_n 1 0 hX dX11_weightOf_0 rfl rfl ?_
  refine g_iload_n 2 1 hX dX11_weightOf_1 rfl rfl ?_
  refine g_callVX 5 hX (k_X11_existingTrader l g hf N M a0 x1) lk_X11_existingTrader rfl (ci := 11) rfl (Nat.le_of_ble_eq_true rfl) q_1346 q_33 (by omega) rfl (Nat.le_of_ble_eq_true rfl) (by decide) (by decide) (fun _ _ => rfl) hh (by decide) (by decide) dX11_weightOf_2 rfl (fun r1 M2 => ?_)
  refine r_X11_211 8 hX dX11_weightOf_5 rfl ?_
  exact g_xr (b0 := ((.inl (kI M2 r1 2), M2) : (Int32 ⊕ Nat) × kMem)) (v0 := (some (.int (kI M2 r1 2)))) (fun b h => by cases h; rfl) (g_iret (b0 := ((.inl (kI M2 r1 2), M2) : (Int32 ⊕ Nat) × kMem)) hX hr rfl (Nat.le_of_ble_eq_true rfl) (Nat.le_of_ble_eq_true rfl) dX11_weightOf_8)
set_option maxRecDepth 100000 in
set_option maxHeartbeats 4000000 in
theorem k_X11_purseOf (l : Launch) (g : kG) (hf : l.flags = flags0) (N : Nat) (M : kMem) (a0 : Nat) (x1 : Int32) : kMetX l g yX11_purseOf cX11_purseOf 2 (some .int) 5 1 6 [.ref a0, .int x1] M (kfin (fun v : Int32 => some (.int v))) (F_X11_purseOf N M a0 x1) := by
  refine k_ofX (lv := [(0, .ref a0), (1, .int x1)]) RX11 (by decide) rfl rfl (Nat.le_of_ble_eq_true rfl) ?_
  intro p e s m args below meth c hX hr hh
  unfold F_X11_purseOf
  refine g_aload_n 1 0 hX dX11_purseOf_0 rfl rfl ?_
  refine g_iload_n 2 1 hX dX11_purseOf_1 rfl rfl ?_
  refine g_callVX 5 hX (k_X11_existingTrader l g hf N M a0 x1) lk_X11_existingTrader rfl (ci := 11) rfl (Nat.le_of_ble_eq_true rfl) q_1346 q_33 (by omega) rfl (Nat.le_of_ble_eq_true rfl) (by decide) (by decide) (fun _ _ => rfl) hh (by decide) (by decide) dX11_purseOf_2 rfl (fun r1 M2 => ?_)
  refine r_X11_214 8 hX dX11_purseOf_5 rfl ?_
  exact g_xr (b0 := ((.inl (kI M2 r1 3), M2) : (Int32 ⊕ Nat) × kMem)) (v0 := (some (.int (kI M2 r1 3)))) (fun b h => by cases h; rfl) (g_iret (b0 := ((.inl (kI M2 r1 3), M2) : (Int32 ⊕ Nat) × kMem)) hX hr rfl (Nat.le_of_ble_eq_true rfl) (Nat.le_of_ble_eq_true rfl) dX11_purseOf_8)
set_option maxRecDepth 100000 in
set_option maxHeartbeats 4000000 in
theorem k_X11_ageOf (l : Launch) (g : kG) (hf : l.flags = flags0) (N : Nat) (M : kMem) (a0 : Nat) (x1 : Int32) : kMetX l g yX11_ageOf cX11_ageOf 2 (some .int) 5 1 6 [.ref a0, .int x1] M (kfin (fun v : Int32 => some (.int v))) (F_X11_ageOf N M a0 x1) := by
  refine k_ofX (lv := [(0, .ref a0), (1, .int x1)]) RX11 (by decide) rfl rfl (Nat.le_of_ble_eq_true rfl) ?_
  intro p e s m args below meth c hX hr hh
  unfold F_X11_ageOf
  refine g_aload_n 1 0 hX dX11_ageOf_0 rfl rfl ?_
  refine g_iload_n 2 1 hX dX11_ageOf_1 rfl rfl ?_
  refine g_callVX 5 hX (k_X11_existingTrader l g hf N M a0 x1) lk_X11_existingTrader rfl (ci := 11) rfl (Nat.le_of_ble_eq_true rfl) q_1346 q_33 (by omega) rfl (Nat.le_of_ble_eq_true rfl) (by decide) (by decide) (fun _ _ => rfl) hh (by decide) (by decide) dX11_ageOf_2 rfl (fun r1 M2 => ?_)
  refine r_X11_217 8 hX dX11_ageOf_5 rfl ?_
  exact g_xr (b0 := ((.inl (kI M2 r1 4), M2) : (Int32 ⊕ Nat) × kMem)) (v0 := (some (.int (kI M2 r1 4)))) (fun b h => by cases h; rfl) (g_iret (b0 := ((.inl (kI M2 r1 4), M2) : (Int32 ⊕ Nat) × kMem)) hX hr rfl (Nat.le_of_ble_eq_true rfl) (Nat.le_of_ble_eq_true rfl) dX11_ageOf_8)
set_option maxRecDepth 100000 in
set_option maxHeartbeats 4000000 in
theorem k_X11_isPresent (l : Launch) (g : kG) (hf : l.flags = flags0) (N : Nat) (M : kMem) (a0 : Nat) (x1 : Int32) : kMetX l g yX11_isPresent cX11_isPresent 2 (some .boolean) 5 1 6 [.ref a0, .int x1] M (kfin (fun v : Int32 => some (.int v))) (F_X11_isPresent N M a0 x1) := by
  refine k_ofX (lv := [(0, .ref a0), (1, .int x1)]) RX11 (by decide) rfl rfl (Nat.le_of_ble_eq_true rfl) ?_
  intro p e s m args below meth c hX hr hh
  unfold F_X11_isPresent
  refine g_aload_n 1 0 hX dX11_isPresent_0 rfl rfl ?_
  refine g_iload_n 2 1 hX dX11_isPresent_1 rfl rfl ?_
  refine g_callVX 5 hX (k_X11_existingTrader l g hf N M a0 x1) lk_X11_existingTrader rfl (ci := 11) rfl (Nat.le_of_ble_eq_true rfl) q_1346 q_33 (by omega) rfl (Nat.le_of_ble_eq_true rfl) (by decide) (by decide) (fun _ _ => rfl) hh (by decide) (by decide) dX11_isPresent_2 rfl (fun r1 M2 => ?_)
  refine r_X11_220 8 hX dX11_isPresent_5 rfl ?_
  exact g_xr (b0 := ((.inl (kI M2 r1 5), M2) : (Int32 ⊕ Nat) × kMem)) (v0 := (some (.int (kI M2 r1 5)))) (fun b h => by obtain ⟨_, h⟩ := kg_some h; cases h; rfl) (g_zret (b0 := ((.inl (kI M2 r1 5), M2) : (Int32 ⊕ Nat) × kMem)) hX hr rfl (Nat.le_of_ble_eq_true rfl) (Nat.le_of_ble_eq_true rfl) dX11_isPresent_8)
set_option maxRecDepth 100000 in
set_option maxHeartbeats 4000000 in
theorem k_X11_boardOf (l : Launch) (g : kG) (hf : l.flags = flags0) (N : Nat) (M : kMem) (a0 : Nat) (x1 : Int32) : kMetX l g yX11_boardOf cX11_boardOf 2 (some .int) 5 1 6 [.ref a0, .int x1] M (kfin (fun v : Int32 => some (.int v))) (F_X11_boardOf N M a0 x1) := by
  refine k_ofX (lv := [(0, .ref a0), (1, .int x1)]) RX11 (by decide) rfl rfl (Nat.le_of_ble_eq_true rfl) ?_
  intro p e s m args below meth c hX hr hh
  unfold F_X11_boardOf
  refine g_aload_n 1 0 hX dX11_boardOf_0 rfl rfl ?_
  refine g_iload_n 2 1 hX dX11_boardOf_1 rfl rfl ?_
  refine g_callVX 5 hX (k_X11_existingTrader l g hf N M a0 x1) lk_X11_existingTrader rfl (ci := 11) rfl (Nat.le_of_ble_eq_true rfl) q_1346 q_33 (by omega) rfl (Nat.le_of_ble_eq_true rfl) (by decide) (by decide) (fun _ _ => rfl) hh (by decide) (by decide) dX11_boardOf_2 rfl (fun r1 M2 => ?_)
  refine r_X11_224 8 hX dX11_boardOf_5 rfl ?_
  exact g_xr (b0 := ((.inl (kI M2 r1 6), M2) : (Int32 ⊕ Nat) × kMem)) (v0 := (some (.int (kI M2 r1 6)))) (fun b h => by cases h; rfl) (g_iret (b0 := ((.inl (kI M2 r1 6), M2) : (Int32 ⊕ Nat) × kMem)) hX hr rfl (Nat.le_of_ble_eq_true rfl) (Nat.le_of_ble_eq_true rfl) dX11_boardOf_8)
set_option maxRecDepth 100000 in
set_option maxHeartbeats 4000000 in
theorem k_X11_positionOf (l : Launch) (g : kG) (hf : l.flags = flags0) (N : Nat) (M : kMem) (a0 : Nat) (x1 : Int32) : kMetX l g yX11_positionOf cX11_positionOf 2 (some .int) 5 1 6 [.ref a0, .int x1] M (kfin (fun v : Int32 => some (.int v))) (F_X11_positionOf N M a0 x1) := by
  refine k_ofX (lv := [(0, .ref a0), (1, .int x1)]) RX11 (by decide) rfl rfl (Nat.le_of_ble_eq_true rfl) ?_
  intro p e s m args below meth c hX hr hh
  unfold F_X11_positionOf
  refine g_aload_n 1 0 hX dX11_positionOf_0 rfl rfl ?_
  refine g_iload_n 2 1 hX dX11_positionOf_1 rfl rfl ?_
  refine g_callVX 5 hX (k_X11_existingTrader l g hf N M a0 x1) lk_X11_existingTrader rfl (ci := 11) rfl (Nat.le_of_ble_eq_true rfl) q_1346 q_33 (by omega) rfl (Nat.le_of_ble_eq_true rfl) (by decide) (by decide) (fun _ _ => rfl) hh (by decide) (by decide) dX11_positionOf_2 rfl (fun r1 M2 => ?_)
  refine r_X11_227 8 hX dX11_positionOf_5 rfl ?_
  exact g_xr (b0 := ((.inl (kI M2 r1 7), M2) : (Int32 ⊕ Nat) × kMem)) (v0 := (some (.int (kI M2 r1 7)))) (fun b h => by cases h; rfl) (g_iret (b0 := ((.inl (kI M2 r1 7), M2) : (Int32 ⊕ Nat) × kMem)) hX hr rfl (Nat.le_of_ble_eq_true rfl) (Nat.le_of_ble_eq_true rfl) dX11_positionOf_8)
set_option maxRecDepth 100000 in
set_option maxHeartbeats 4000000 in
theorem k_X11_incomeOf (l : Launch) (g : kG) (hf : l.flags = flags0) (N : Nat) (M : kMem) (a0 : Nat) (x1 : Int32) : kMetX l g yX11_incomeOf cX11_incomeOf 2 (some .int) 5 1 6 [.ref a0, .int x1] M (kfin (fun v : Int32 => some (.int v))) (F_X11_incomeOf N M a0 x1) := by
  refine k_ofX (lv := [(0, .ref a0), (1, .int x1)]) RX11 (by decide) rfl rfl (Nat.le_of_ble_eq_true rfl) ?_
  intro p e s m args below meth c hX hr hh
  unfold F_X11_incomeOf
  refine g_aload_n 1 0 hX dX11_incomeOf_0 rfl rfl ?_
  refine r_X11_38 4 hX dX11_incomeOf_1 rfl ?_
  refine g_aload_n 5 0 hX dX11_incomeOf_4 rfl rfl ?_
  refine g_iload_n 6 1 hX dX11_incomeOf_5 rfl rfl ?_
  refine g_callVX 9 hX (k_X11_existingTrader l g hf N M a0 x1) lk_X11_existingTrader rfl (ci := 11) rfl (Nat.le_of_ble_eq_true rfl) q_1346 q_33 (by omega) rfl (Nat.le_of_ble_eq_true rfl) (by decide) (by decide) (fun _ _ => rfl) hh (by decide) (by decide) dX11_incomeOf_6 rfl (fun r1 M2 => ?_)
  refine g_callV_ip 12 hX (k_X4_incomeFor l g N M2 (kR M a0 4) r1) lk_X4_incomeFor rfl (ci := 4) rfl (Nat.le_of_ble_eq_true rfl) q_1405 q_949 (by omega) rfl (Nat.le_of_ble_eq_true rfl) (Nat.le_of_ble_eq_true rfl) (Nat.le_of_ble_eq_true rfl) dX11_incomeOf_9 rfl (fun r3 => ?_)
  exact g_xr (b0 := ((.inl r3, M2) : (Int32 ⊕ Nat) × kMem)) (v0 := (some (.int r3))) (fun b h => by cases h; rfl) (g_iret (b0 := ((.inl r3, M2) : (Int32 ⊕ Nat) × kMem)) hX hr rfl (Nat.le_of_ble_eq_true rfl) (Nat.le_of_ble_eq_true rfl) dX11_incomeOf_12)
set_option maxRecDepth 100000 in
set_option maxHeartbeats 4000000 in
theorem k_X11_reasonAgainstSeat (l : Launch) (g : kG) (hf : l.flags = flags0) (N : Nat) (M : kMem) (a0 : Nat) (x1 : Int32) (x2 : Int32) (x3 : Int32) : kMetX l g yX11_reasonAgainstSeat cX11_reasonAgainstSeat 5 (some .int) 6 3 18 [.ref a0, .int x1, .int x2, .int x3] M (kfin (fun v : Int32 => some (.int v))) (F_X11_reasonAgainstSeat N M a0 x1 x2 x3) := by
  refine k_ofX (lv := [(0, .ref a0), (1, .int x1), (2, .int x2), (3, .int x3)]) RX11 (by decide) rfl rfl (Nat.le_of_ble_eq_true rfl) ?_
  intro p e s m args below meth c hX hr hh
  unfold F_X11_reasonAgainstSeat
  refine g_aload_n 1 0 hX dX11_reasonAgainstSeat_0 rfl rfl ?_
  refine g_iload_n 2 1 hX dX11_reasonAgainstSeat_1 rfl rfl ?_
  refine g_callVX 5 hX (k_X11_existingTrader l g hf N M a0 x1) lk_X11_existingTrader rfl (ci := 11) rfl (Nat.le_of_ble_eq_true rfl) q_1346 q_33 (by omega) rfl (Nat.le_of_ble_eq_true rfl) (by decide) (by decide) (fun _ _ => rfl) hh (by decide) (by decide) dX11_reasonAgainstSeat_2 rfl (fun r1 M2 => ?_)
  refine g_astore 7 4 [(4, .ref r1), (0, .ref a0), (1, .int x1), (2, .int x2), (3, .int x3)] hX dX11_reasonAgainstSeat_5 rfl (Nat.le_of_ble_eq_true rfl) rfl ?_
  refine g_aload_n 8 1 hX dX11_reasonAgainstSeat_7 rfl rfl ?_
  refine r_X11_38 11 hX dX11_reasonAgainstSeat_8 rfl ?_
  refine g_aload 13 0 hX dX11_reasonAgainstSeat_11 rfl rfl ?_
  refine g_aload_n 14 1 hX dX11_reasonAgainstSeat_13 rfl rfl ?_
  refine g_iload_n 15 3 hX dX11_reasonAgainstSeat_14 rfl rfl ?_
  refine g_iload_n 16 4 hX dX11_reasonAgainstSeat_15 rfl rfl ?_
  refine g_callVX 19 hX (k_X11_boardWithSeat l g hf N M2 a0 x2 x3) lk_X11_boardWithSeat rfl (ci := 11) rfl (Nat.le_of_ble_eq_true rfl) q_1305 q_32 (by omega) rfl (Nat.le_of_ble_eq_true rfl) (by decide) (by decide) (fun _ _ => rfl) hh (by decide) (by decide) dX11_reasonAgainstSeat_16 rfl (fun r3 M4 => ?_)
  refine g_iload_n 20 4 hX dX11_reasonAgainstSeat_19 rfl rfl ?_
  refine g_callV_ip 23 hX (k_X4_whyNotSeat l g N M4 (kR M2 a0 4) r1 r3 x3) lk_X4_whyNotSeat rfl (ci := 4) rfl (Nat.le_of_ble_eq_true rfl) q_1413 q_848 (by omega) rfl (Nat.le_of_ble_eq_true rfl) (Nat.le_of_ble_eq_true rfl) (Nat.le_of_ble_eq_true rfl) dX11_reasonAgainstSeat_20 rfl (fun r5 => ?_)
  exact g_xr (b0 := ((.inl r5, M4) : (Int32 ⊕ Nat) × kMem)) (v0 := (some (.int r5))) (fun b h => by cases h; rfl) (g_iret (b0 := ((.inl r5, M4) : (Int32 ⊕ Nat) × kMem)) hX hr rfl (Nat.le_of_ble_eq_true rfl) (Nat.le_of_ble_eq_true rfl) dX11_reasonAgainstSeat_23)
set_option maxRecDepth 100000 in
set_option maxHeartbeats 4000000 in
theorem k_X11_requireDifferent (l : Launch) (g : kG) (hf : l.flags = flags0) (N : Nat) (M : kMem) (x0 : Int32) (x1 : Int32) : kMetX l g yX11_requireDifferent cX11_requireDifferent 2 none 4 1 6 [.int x0, .int x1] M (kfin (fun _ : Unit => none)) (F_X11_requireDifferent N M x0 x1) := by
  refine k_ofX (lv := [(0, .int x0), (1, .int x1)]) RX11 (by decide) rfl rfl (Nat.le_of_ble_eq_true rfl) ?_
  intro p e s m args below meth c hX hr hh
  unfold F_X11_requireDifferent
  refine g_iload_n 1 0 hX dX11_requireDifferent_0 rfl rfl ?_
  refine g_iload_n 2 1 hX dX11_requireDifferent_1 rfl rfl ?_
  refine g_icmp_ne 16 5 hX dX11_requireDifferent_2 (by decide) rfl (fun _ => ?_) (fun _ => ?_)
  · exact g_xr (b0 := ((.inl (), M) : (Unit ⊕ Nat) × kMem)) (v0 := none) (fun b h => by cases h; rfl) (g_vret (b0 := ((.inl (), M) : (Unit ⊕ Nat) × kMem)) hX hr rfl (Nat.le_of_ble_eq_true rfl) (Nat.le_of_ble_eq_true rfl) dX11_requireDifferent_16)
  · exact g_throwW2 hX hf hh (i := 22) rfl dX11_requireDifferent_5 dX11_requireDifferent_8 dX11_requireDifferent_9 dX11_requireDifferent_12 dX11_requireDifferent_15 (by decide) (by decide) (by decide) (by decide) (Nat.le_of_ble_eq_true rfl) (by decide)
set_option maxRecDepth 100000 in
set_option maxHeartbeats 4000000 in
theorem k_X11_reasonAgainstSale (l : Launch) (g : kG) (hf : l.flags = flags0) (N : Nat) (M : kMem) (a0 : Nat) (x1 : Int32) (x2 : Int32) (x3 : Int32) : kMetX l g yX11_reasonAgainstSale cX11_reasonAgainstSale 6 (some .int) 5 4 24 [.ref a0, .int x1, .int x2, .int x3] M (kfin (fun v : Int32 => some (.int v))) (F_X11_reasonAgainstSale N M a0 x1 x2 x3) := by
  refine k_ofX (lv := [(0, .ref a0), (1, .int x1), (2, .int x2), (3, .int x3)]) RX11 (by decide) rfl rfl (Nat.le_of_ble_eq_true rfl) ?_
  intro p e s m args below meth c hX hr hh
  unfold F_X11_reasonAgainstSale
  refine g_aload_n 1 0 hX dX11_reasonAgainstSale_0 rfl rfl ?_
  refine g_iload_n 2 1 hX dX11_reasonAgainstSale_1 rfl rfl ?_
  refine g_callVX 5 hX (k_X11_existingTrader l g hf N M a0 x1) lk_X11_existingTrader rfl (ci := 11) rfl (Nat.le_of_ble_eq_true rfl) q_1346 q_33 (by omega) rfl (Nat.le_of_ble_eq_true rfl) (by decide) (by decide) (fun _ _ => rfl) hh (by decide) (by decide) dX11_reasonAgainstSale_2 rfl (fun r1 M2 => ?_)
  refine g_astore 7 4 [(4, .ref r1), (0, .ref a0), (1, .int x1), (2, .int x2), (3, .int x3)] hX dX11_reasonAgainstSale_5 rfl (Nat.le_of_ble_eq_true rfl) rfl ?_
  refine g_aload_n 8 1 hX dX11_reasonAgainstSale_7 rfl rfl ?_
  refine g_iload_n 9 3 hX dX11_reasonAgainstSale_8 rfl rfl ?_
  refine g_callVX 12 hX (k_X11_existingTrader l g hf N M2 a0 x2) lk_X11_existingTrader rfl (ci := 11) rfl (Nat.le_of_ble_eq_true rfl) q_1346 q_33 (by omega) rfl (Nat.le_of_ble_eq_true rfl) (by decide) (by decide) (fun _ _ => rfl) hh (by decide) (by decide) dX11_reasonAgainstSale_9 rfl (fun r3 M4 => ?_)
  refine g_astore 14 5 [(5, .ref r3), (4, .ref r1), (0, .ref a0), (1, .int x1), (2, .int x2), (3, .int x3)] hX dX11_reasonAgainstSale_12 rfl (Nat.le_of_ble_eq_true rfl) rfl ?_
  refine g_iload_n 15 3 hX dX11_reasonAgainstSale_14 rfl rfl ?_
  refine g_iload_n 16 4 hX dX11_reasonAgainstSale_15 rfl rfl ?_
  refine g_callSX 19 hX (k_X11_requireDifferent l g hf N M4 x1 x2) lk_X11_requireDifferent q_1421 (by omega) rfl (Nat.le_of_ble_eq_true rfl) (by decide) (by decide) (fun _ _ => rfl) hh (by decide) (by decide) dX11_reasonAgainstSale_16 rfl (fun r5 M6 => ?_)
  refine g_iload_n 20 5 hX dX11_reasonAgainstSale_19 rfl rfl ?_
  refine g_iconst 21 hX 1 dX11_reasonAgainstSale_20 rfl kc_i_1 ?_
  refine g_bipush 23 hX 50 dX11_reasonAgainstSale_21 rfl kc_b_50 ?_
  refine g_callSX 26 hX (k_X11_requireRange l g hf N M6 x3 1 50) lk_X11_requireRange q_1220 (by omega) rfl (Nat.le_of_ble_eq_true rfl) (by decide) (by decide) (fun _ _ => rfl) hh (by decide) (by decide) dX11_reasonAgainstSale_23 rfl (fun r7 M8 => ?_)
  refine g_aload_n 27 2 hX dX11_reasonAgainstSale_26 rfl rfl ?_
  refine r_X11_38 30 hX dX11_reasonAgainstSale_27 rfl ?_
  refine g_aload 32 1 hX dX11_reasonAgainstSale_30 rfl rfl ?_
  refine g_aload 34 0 hX dX11_reasonAgainstSale_32 rfl rfl ?_
  refine g_iload_n 35 5 hX dX11_reasonAgainstSale_34 rfl rfl ?_
  refine g_callV_ip 38 hX (k_X4_whyNotSale l g N M8 (kR M8 a0 4) r1 r3 x3) lk_X4_whyNotSale rfl (ci := 4) rfl (Nat.le_of_ble_eq_true rfl) q_1425 q_905 (by omega) rfl (Nat.le_of_ble_eq_true rfl) (Nat.le_of_ble_eq_true rfl) (Nat.le_of_ble_eq_true rfl) dX11_reasonAgainstSale_35 rfl (fun r9 => ?_)
  exact g_xr (b0 := ((.inl r9, M8) : (Int32 ⊕ Nat) × kMem)) (v0 := (some (.int r9))) (fun b h => by cases h; rfl) (g_iret (b0 := ((.inl r9, M8) : (Int32 ⊕ Nat) × kMem)) hX hr rfl (Nat.le_of_ble_eq_true rfl) (Nat.le_of_ble_eq_true rfl) dX11_reasonAgainstSale_38)
set_option maxRecDepth 100000 in
set_option maxHeartbeats 4000000 in
theorem k_X11_reasonAgainstSwap (l : Launch) (g : kG) (hf : l.flags = flags0) (N : Nat) (M : kMem) (a0 : Nat) (x1 : Int32) (x2 : Int32) : kMetX l g yX11_reasonAgainstSwap cX11_reasonAgainstSwap 5 (some .int) 5 3 18 [.ref a0, .int x1, .int x2] M (kfin (fun v : Int32 => some (.int v))) (F_X11_reasonAgainstSwap N M a0 x1 x2) := by
  refine k_ofX (lv := [(0, .ref a0), (1, .int x1), (2, .int x2)]) RX11 (by decide) rfl rfl (Nat.le_of_ble_eq_true rfl) ?_
  intro p e s m args below meth c hX hr hh
  unfold F_X11_reasonAgainstSwap
  refine g_aload_n 1 0 hX dX11_reasonAgainstSwap_0 rfl rfl ?_
  refine g_iload_n 2 1 hX dX11_reasonAgainstSwap_1 rfl rfl ?_
  refine g_callVX 5 hX (k_X11_existingTrader l g hf N M a0 x1) lk_X11_existingTrader rfl (ci := 11) rfl (Nat.le_of_ble_eq_true rfl) q_1346 q_33 (by omega) rfl (Nat.le_of_ble_eq_true rfl) (by decide) (by decide) (fun _ _ => rfl) hh (by decide) (by decide) dX11_reasonAgainstSwap_2 rfl (fun r1 M2 => ?_)
  refine g_astore_n 6 3 [(3, .ref r1), (0, .ref a0), (1, .int x1), (2, .int x2)] hX dX11_reasonAgainstSwap_5 rfl rfl (Nat.le_of_ble_eq_true rfl) rfl ?_
  refine g_aload_n 7 1 hX dX11_reasonAgainstSwap_6 rfl rfl ?_
  refine g_iload_n 8 3 hX dX11_reasonAgainstSwap_7 rfl rfl ?_
  refine g_callVX 11 hX (k_X11_existingTrader l g hf N M2 a0 x2) lk_X11_existingTrader rfl (ci := 11) rfl (Nat.le_of_ble_eq_true rfl) q_1346 q_33 (by omega) rfl (Nat.le_of_ble_eq_true rfl) (by decide) (by decide) (fun _ _ => rfl) hh (by decide) (by decide) dX11_reasonAgainstSwap_8 rfl (fun r3 M4 => ?_)
  refine g_astore 13 4 [(4, .ref r3), (3, .ref r1), (0, .ref a0), (1, .int x1), (2, .int x2)] hX dX11_reasonAgainstSwap_11 rfl (Nat.le_of_ble_eq_true rfl) rfl ?_
  refine g_iload_n 14 3 hX dX11_reasonAgainstSwap_13 rfl rfl ?_
  refine g_iload_n 15 4 hX dX11_reasonAgainstSwap_14 rfl rfl ?_
  refine g_callSX 18 hX (k_X11_requireDifferent l g hf N M4 x1 x2) lk_X11_requireDifferent q_1421 (by omega) rfl (Nat.le_of_ble_eq_true rfl) (by decide) (by decide) (fun _ _ => rfl) hh (by decide) (by decide) dX11_reasonAgainstSwap_15 rfl (fun r5 M6 => ?_)
  refine g_aload_n 19 2 hX dX11_reasonAgainstSwap_18 rfl rfl ?_
  refine r_X11_38 22 hX dX11_reasonAgainstSwap_19 rfl ?_
  refine g_aload_n 23 1 hX dX11_reasonAgainstSwap_22 rfl rfl ?_
  refine g_aload 25 0 hX dX11_reasonAgainstSwap_23 rfl rfl ?_
  refine g_callV_ip 28 hX (k_X4_whyNotSwap l g N M6 (kR M6 a0 4) r1 r3) lk_X4_whyNotSwap rfl (ci := 4) rfl (Nat.le_of_ble_eq_true rfl) q_1433 q_925 (by omega) rfl (Nat.le_of_ble_eq_true rfl) (Nat.le_of_ble_eq_true rfl) (Nat.le_of_ble_eq_true rfl) dX11_reasonAgainstSwap_25 rfl (fun r7 => ?_)
  exact g_xr (b0 := ((.inl r7, M6) : (Int32 ⊕ Nat) × kMem)) (v0 := (some (.int r7))) (fun b h => by cases h; rfl) (g_iret (b0 := ((.inl r7, M6) : (Int32 ⊕ Nat) × kMem)) hX hr rfl (Nat.le_of_ble_eq_true rfl) (Nat.le_of_ble_eq_true rfl) dX11_reasonAgainstSwap_28)
set_option maxRecDepth 100000 in
set_option maxHeartbeats 4000000 in
theorem k_X11_requireSeat (l : Launch) (g : kG) (hf : l.flags = flags0) (N : Nat) (M : kMem) (a0 : Nat) : kMetX l g yX11_requireSeat cX11_requireSeat 1 none 4 1 6 [.ref a0] M (kfin (fun _ : Unit => none)) (F_X11_requireSeat N M a0) := by
  refine k_ofX (lv := [(0, .ref a0)]) RX11 (by decide) rfl rfl (Nat.le_of_ble_eq_true rfl) ?_
  intro p e s m args below meth c hX hr hh
  unfold F_X11_requireSeat
  refine g_aload_n 1 0 hX dX11_requireSeat_0 rfl rfl ?_
  refine g_callV_ip 4 hX (k_X10_isSeated l g N M a0) lk_X10_isSeated rfl (ci := 10) rfl (Nat.le_of_ble_eq_true rfl) q_1444 q_658 (by omega) rfl (Nat.le_of_ble_eq_true rfl) (Nat.le_of_ble_eq_true rfl) (Nat.le_of_ble_eq_true rfl) dX11_requireSeat_1 rfl (fun r1 => ?_)
  refine g_if_ne 18 7 hX dX11_requireSeat_4 (by decide) rfl (fun _ => ?_) (fun _ => ?_)
  · exact g_xr (b0 := ((.inl (), M) : (Unit ⊕ Nat) × kMem)) (v0 := none) (fun b h => by cases h; rfl) (g_vret (b0 := ((.inl (), M) : (Unit ⊕ Nat) × kMem)) hX hr rfl (Nat.le_of_ble_eq_true rfl) (Nat.le_of_ble_eq_true rfl) dX11_requireSeat_18)
  · exact g_throwW3 hX hf hh (i := 23) rfl dX11_requireSeat_7 dX11_requireSeat_10 dX11_requireSeat_11 dX11_requireSeat_14 dX11_requireSeat_17 (by decide) (by decide) (by decide) (by decide) (Nat.le_of_ble_eq_true rfl) (by decide)
set_option maxRecDepth 100000 in
set_option maxHeartbeats 4000000 in
theorem k_X11_weightUnitPrice (l : Launch) (g : kG) (hf : l.flags = flags0) (N : Nat) (M : kMem) (a0 : Nat) (x1 : Int32) (x2 : Int32) : kMetX l g yX11_weightUnitPrice cX11_weightUnitPrice 5 (some .int) 5 4 24 [.ref a0, .int x1, .int x2] M (kfin (fun v : Int32 => some (.int v))) (F_X11_weightUnitPrice N M a0 x1 x2) := by
  refine k_ofX (lv := [(0, .ref a0), (1, .int x1), (2, .int x2)]) RX11 (by decide) rfl rfl (Nat.le_of_ble_eq_true rfl) ?_
  intro p e s m args below meth c hX hr hh
  unfold F_X11_weightUnitPrice
  refine g_aload_n 1 0 hX dX11_weightUnitPrice_0 rfl rfl ?_
  refine g_iload_n 2 1 hX dX11_weightUnitPrice_1 rfl rfl ?_
  refine g_callVX 5 hX (k_X11_existingTrader l g hf N M a0 x1) lk_X11_existingTrader rfl (ci := 11) rfl (Nat.le_of_ble_eq_true rfl) q_1346 q_33 (by omega) rfl (Nat.le_of_ble_eq_true rfl) (by decide) (by decide) (fun _ _ => rfl) hh (by decide) (by decide) dX11_weightUnitPrice_2 rfl (fun r1 M2 => ?_)
  refine g_astore_n 6 3 [(3, .ref r1), (0, .ref a0), (1, .int x1), (2, .int x2)] hX dX11_weightUnitPrice_5 rfl rfl (Nat.le_of_ble_eq_true rfl) rfl ?_
  refine g_aload_n 7 1 hX dX11_weightUnitPrice_6 rfl rfl ?_
  refine g_iload_n 8 3 hX dX11_weightUnitPrice_7 rfl rfl ?_
  refine g_callVX 11 hX (k_X11_existingTrader l g hf N M2 a0 x2) lk_X11_existingTrader rfl (ci := 11) rfl (Nat.le_of_ble_eq_true rfl) q_1346 q_33 (by omega) rfl (Nat.le_of_ble_eq_true rfl) (by decide) (by decide) (fun _ _ => rfl) hh (by decide) (by decide) dX11_weightUnitPrice_8 rfl (fun r3 M4 => ?_)
  refine g_astore 13 4 [(4, .ref r3), (3, .ref r1), (0, .ref a0), (1, .int x1), (2, .int x2)] hX dX11_weightUnitPrice_11 rfl (Nat.le_of_ble_eq_true rfl) rfl ?_
  refine g_aload_n 14 1 hX dX11_weightUnitPrice_13 rfl rfl ?_
  refine g_callSX 17 hX (k_X11_requireSeat l g hf N M4 r1) lk_X11_requireSeat q_1441 (by omega) rfl (Nat.le_of_ble_eq_true rfl) (by decide) (by decide) (fun _ _ => rfl) hh (by decide) (by decide) dX11_weightUnitPrice_14 rfl (fun r5 M6 => ?_)
  refine g_aload 19 0 hX dX11_weightUnitPrice_17 rfl rfl ?_
  refine g_callSX 22 hX (k_X11_requireSeat l g hf N M6 r3) lk_X11_requireSeat q_1441 (by omega) rfl (Nat.le_of_ble_eq_true rfl) (by decide) (by decide) (fun _ _ => rfl) hh (by decide) (by decide) dX11_weightUnitPrice_19 rfl (fun r7 M8 => ?_)
  refine g_aload_n 23 2 hX dX11_weightUnitPrice_22 rfl rfl ?_
  refine r_X11_38 26 hX dX11_weightUnitPrice_23 rfl ?_
  refine g_aload_n 27 1 hX dX11_weightUnitPrice_26 rfl rfl ?_
  refine g_aload 29 0 hX dX11_weightUnitPrice_27 rfl rfl ?_
  refine g_callV_ip 32 hX (k_X4_unitPrice l g N M8 (kR M8 a0 4) r1 r3) lk_X4_unitPrice rfl (ci := 4) rfl (Nat.le_of_ble_eq_true rfl) q_1446 q_910 (by omega) rfl (Nat.le_of_ble_eq_true rfl) (Nat.le_of_ble_eq_true rfl) (Nat.le_of_ble_eq_true rfl) dX11_weightUnitPrice_29 rfl (fun r9 => ?_)
  exact g_xr (b0 := ((.inl r9, M8) : (Int32 ⊕ Nat) × kMem)) (v0 := (some (.int r9))) (fun b h => by cases h; rfl) (g_iret (b0 := ((.inl r9, M8) : (Int32 ⊕ Nat) × kMem)) hX hr rfl (Nat.le_of_ble_eq_true rfl) (Nat.le_of_ble_eq_true rfl) dX11_weightUnitPrice_32)
set_option maxRecDepth 100000 in
set_option maxHeartbeats 4000000 in
theorem k_X11_bestSeat (l : Launch) (g : kG) (hf : l.flags = flags0) (N : Nat) (M : kMem) (a0 : Nat) (x1 : Int32) (x2 : Int32) : kMetX l g yX11_bestSeat cX11_bestSeat 4 (some .int) 6 2 12 [.ref a0, .int x1, .int x2] M (kfin (fun v : Int32 => some (.int v))) (F_X11_bestSeat N M a0 x1 x2) := by
  refine k_ofX (lv := [(0, .ref a0), (1, .int x1), (2, .int x2)]) RX11 (by decide) rfl rfl (Nat.le_of_ble_eq_true rfl) ?_
  intro p e s m args below meth c hX hr hh
  unfold F_X11_bestSeat
  refine g_aload_n 1 0 hX dX11_bestSeat_0 rfl rfl ?_
  refine g_iload_n 2 1 hX dX11_bestSeat_1 rfl rfl ?_
  refine g_callVX 5 hX (k_X11_existingTrader l g hf N M a0 x1) lk_X11_existingTrader rfl (ci := 11) rfl (Nat.le_of_ble_eq_true rfl) q_1346 q_33 (by omega) rfl (Nat.le_of_ble_eq_true rfl) (by decide) (by decide) (fun _ _ => rfl) hh (by decide) (by decide) dX11_bestSeat_2 rfl (fun r1 M2 => ?_)
  refine g_astore_n 6 3 [(3, .ref r1), (0, .ref a0), (1, .int x1), (2, .int x2)] hX dX11_bestSeat_5 rfl rfl (Nat.le_of_ble_eq_true rfl) rfl ?_
  refine g_aload_n 7 1 hX dX11_bestSeat_6 rfl rfl ?_
  refine r_X11_38 10 hX dX11_bestSeat_7 rfl ?_
  refine g_aload_n 11 0 hX dX11_bestSeat_10 rfl rfl ?_
  refine g_aload_n 12 1 hX dX11_bestSeat_11 rfl rfl ?_
  refine g_iload_n 13 3 hX dX11_bestSeat_12 rfl rfl ?_
  refine g_callVX 16 hX (k_X11_existingBoard l g hf N M2 a0 x2) lk_X11_existingBoard rfl (ci := 11) rfl (Nat.le_of_ble_eq_true rfl) q_1247 q_31 (by omega) rfl (Nat.le_of_ble_eq_true rfl) (by decide) (by decide) (fun _ _ => rfl) hh (by decide) (by decide) dX11_bestSeat_13 rfl (fun r3 M4 => ?_)
  refine g_callV_ip 19 hX (k_X4_mostPayingSeat l g N M4 (kR M2 a0 4) r1 r3) lk_X4_mostPayingSeat rfl (ci := 4) rfl (Nat.le_of_ble_eq_true rfl) q_1454 q_1456 (by omega) rfl (Nat.le_of_ble_eq_true rfl) (Nat.le_of_ble_eq_true rfl) (Nat.le_of_ble_eq_true rfl) dX11_bestSeat_16 rfl (fun r5 => ?_)
  exact g_xr (b0 := ((.inl r5, M4) : (Int32 ⊕ Nat) × kMem)) (v0 := (some (.int r5))) (fun b h => by cases h; rfl) (g_iret (b0 := ((.inl r5, M4) : (Int32 ⊕ Nat) × kMem)) hX hr rfl (Nat.le_of_ble_eq_true rfl) (Nat.le_of_ble_eq_true rfl) dX11_bestSeat_19)
set_option maxRecDepth 100000 in
set_option maxHeartbeats 4000000 in
theorem k_X11_purseAfter (l : Launch) (g : kG) (hf : l.flags = flags0) (N : Nat) (M : kMem) (a0 : Nat) (x1 : Int32) (x2 : Int32) : kMetX l g yX11_purseAfter cX11_purseAfter 5 (some .int) 6 2 12 [.ref a0, .int x1, .int x2] M (kfin (fun v : Int32 => some (.int v))) (F_X11_purseAfter N M a0 x1 x2) := by
  refine k_ofX (lv := [(0, .ref a0), (1, .int x1), (2, .int x2)]) RX11 (by decide) rfl rfl (Nat.le_of_ble_eq_true rfl) ?_
  intro p e s m args below meth c hX hr hh
  unfold F_X11_purseAfter
  refine g_aload_n 1 0 hX dX11_purseAfter_0 rfl rfl ?_
  refine g_iload_n 2 1 hX dX11_purseAfter_1 rfl rfl ?_
  refine g_callVX 5 hX (k_X11_existingTrader l g hf N M a0 x1) lk_X11_existingTrader rfl (ci := 11) rfl (Nat.le_of_ble_eq_true rfl) q_1346 q_33 (by omega) rfl (Nat.le_of_ble_eq_true rfl) (by decide) (by decide) (fun _ _ => rfl) hh (by decide) (by decide) dX11_purseAfter_2 rfl (fun r1 M2 => ?_)
  refine r_X11_194 8 hX dX11_purseAfter_5 rfl ?_
  refine g_klI (fun v3 hv3 => ?_)
  refine g_istore_n 9 3 [(3, .int v3), (0, .ref a0), (1, .int x1), (2, .int x2)] hX dX11_purseAfter_8 rfl rfl (Nat.le_of_ble_eq_true rfl) rfl ?_
  refine g_iload_n 10 3 hX dX11_purseAfter_9 rfl rfl ?_
  refine g_iconst 11 hX 0 dX11_purseAfter_10 rfl kc_i_0 ?_
  refine g_bipush 13 hX 100 dX11_purseAfter_11 rfl kc_b_100 ?_
  refine g_callSX 16 hX (k_X11_requireRange l g hf N M2 x2 0 100) lk_X11_requireRange q_1220 (by omega) rfl (Nat.le_of_ble_eq_true rfl) (by decide) (by decide) (fun _ _ => rfl) hh (by decide) (by decide) dX11_purseAfter_13 rfl (fun r4 M5 => ?_)
  refine g_aload_n 17 1 hX dX11_purseAfter_16 rfl rfl ?_
  refine r_X11_42 20 hX dX11_purseAfter_17 rfl ?_
  refine g_aload_n 21 1 hX dX11_purseAfter_20 rfl rfl ?_
  refine r_X11_38 24 hX dX11_purseAfter_21 rfl ?_
  refine g_callV_v 27 hX (k_X4_copyFrom l g N M5 (kR M5 a0 5) (kR M5 a0 4)) lk_X4_copyFrom rfl (ci := 4) rfl (Nat.le_of_ble_eq_true rfl) q_695 q_697 (by omega) rfl (Nat.le_of_ble_eq_true rfl) (Nat.le_of_ble_eq_true rfl) (Nat.le_of_ble_eq_true rfl) dX11_purseAfter_24 rfl (fun M6 => ?_)
  refine g_aload_n 28 1 hX dX11_purseAfter_27 rfl rfl ?_
  refine r_X11_42 31 hX dX11_purseAfter_28 rfl ?_
  refine g_iload_n 32 3 hX dX11_purseAfter_31 rfl rfl ?_
  refine g_callV_i 35 hX (k_X4_passDays l g N M6 (kR M6 a0 5) x2) lk_X4_passDays rfl (ci := 4) rfl (Nat.le_of_ble_eq_true rfl) q_1466 q_941 (by omega) rfl (Nat.le_of_ble_eq_true rfl) (Nat.le_of_ble_eq_true rfl) (Nat.le_of_ble_eq_true rfl) dX11_purseAfter_32 rfl (fun r7 => ?_)
  refine g_pop 36 hX dX11_purseAfter_35 rfl rfl ?_
  refine g_aload_n 37 1 hX dX11_purseAfter_36 rfl rfl ?_
  refine r_X11_42 40 hX dX11_purseAfter_37 rfl ?_
  refine g_iload_n 41 0 hX dX11_purseAfter_40 rfl rfl ?_
  refine g_callV_rp 44 hX (k_X4_traderNumbered l g N r7.2 (kR r7.2 a0 5) v3) lk_X4_traderNumbered rfl (ci := 4) rfl (Nat.le_of_ble_eq_true rfl) q_1350 q_980 (by omega) rfl (Nat.le_of_ble_eq_true rfl) (Nat.le_of_ble_eq_true rfl) (Nat.le_of_ble_eq_true rfl) dX11_purseAfter_41 rfl (fun r8 => ?_)
  refine g_astore 46 4 [(4, .ref r8), (3, .int v3), (0, .ref a0), (1, .int x1), (2, .int x2)] hX dX11_purseAfter_44 rfl (Nat.le_of_ble_eq_true rfl) rfl ?_
  refine g_aload 48 0 hX dX11_purseAfter_46 rfl rfl ?_
  refine g_ifnonnull 55 51 hX dX11_purseAfter_48 (by decide) rfl (fun _ => ?_) (fun _ => ?_)
  · refine g_aload 57 0 hX dX11_purseAfter_55 rfl rfl ?_
    refine r_X11_214 60 hX dX11_purseAfter_57 rfl ?_
    exact g_xr (b0 := ((.inl (kI r7.2 r8 3), r7.2) : (Int32 ⊕ Nat) × kMem)) (v0 := (some (.int (kI r7.2 r8 3)))) (fun b h => by cases h; rfl) (g_iret (b0 := ((.inl (kI r7.2 r8 3), r7.2) : (Int32 ⊕ Nat) × kMem)) hX hr rfl (Nat.le_of_ble_eq_true rfl) (Nat.le_of_ble_eq_true rfl) dX11_purseAfter_60)
  · refine g_iconst 52 hX 0 dX11_purseAfter_51 rfl kc_i_0 ?_
    refine g_goto 60 hX dX11_purseAfter_52 (by decide) ?_
    exact g_xr (b0 := ((.inl 0, r7.2) : (Int32 ⊕ Nat) × kMem)) (v0 := (some (.int 0))) (fun b h => by cases h; rfl) (g_iret (b0 := ((.inl 0, r7.2) : (Int32 ⊕ Nat) × kMem)) hX hr rfl (Nat.le_of_ble_eq_true rfl) (Nat.le_of_ble_eq_true rfl) dX11_purseAfter_60)
set_option maxRecDepth 100000 in
set_option maxHeartbeats 4000000 in
theorem k_X11_bankAfter (l : Launch) (g : kG) (hf : l.flags = flags0) (N : Nat) (M : kMem) (a0 : Nat) (x1 : Int32) : kMetX l g yX11_bankAfter cX11_bankAfter 2 (some .int) 6 1 6 [.ref a0, .int x1] M (kfin (fun v : Int32 => some (.int v))) (F_X11_bankAfter N M a0 x1) := by
  refine k_ofX (lv := [(0, .ref a0), (1, .int x1)]) RX11 (by decide) rfl rfl (Nat.le_of_ble_eq_true rfl) ?_
  intro p e s m args below meth c hX hr hh
  unfold F_X11_bankAfter
  refine g_iload_n 1 1 hX dX11_bankAfter_0 rfl rfl ?_
  refine g_iconst 2 hX 0 dX11_bankAfter_1 rfl kc_i_0 ?_
  refine g_bipush 4 hX 100 dX11_bankAfter_2 rfl kc_b_100 ?_
  refine g_callSX 7 hX (k_X11_requireRange l g hf N M x1 0 100) lk_X11_requireRange q_1220 (by omega) rfl (Nat.le_of_ble_eq_true rfl) (by decide) (by decide) (fun _ _ => rfl) hh (by decide) (by decide) dX11_bankAfter_4 rfl (fun r1 M2 => ?_)
  refine g_aload_n 8 0 hX dX11_bankAfter_7 rfl rfl ?_
  refine r_X11_42 11 hX dX11_bankAfter_8 rfl ?_
  refine g_aload_n 12 0 hX dX11_bankAfter_11 rfl rfl ?_
  refine r_X11_38 15 hX dX11_bankAfter_12 rfl ?_
  refine g_callV_v 18 hX (k_X4_copyFrom l g N M2 (kR M2 a0 5) (kR M2 a0 4)) lk_X4_copyFrom rfl (ci := 4) rfl (Nat.le_of_ble_eq_true rfl) q_695 q_697 (by omega) rfl (Nat.le_of_ble_eq_true rfl) (Nat.le_of_ble_eq_true rfl) (Nat.le_of_ble_eq_true rfl) dX11_bankAfter_15 rfl (fun M3 => ?_)
  refine g_aload_n 19 0 hX dX11_bankAfter_18 rfl rfl ?_
  refine r_X11_42 22 hX dX11_bankAfter_19 rfl ?_
  refine g_iload_n 23 1 hX dX11_bankAfter_22 rfl rfl ?_
  refine g_callV_i 26 hX (k_X4_passDays l g N M3 (kR M3 a0 5) x1) lk_X4_passDays rfl (ci := 4) rfl (Nat.le_of_ble_eq_true rfl) q_1466 q_941 (by omega) rfl (Nat.le_of_ble_eq_true rfl) (Nat.le_of_ble_eq_true rfl) (Nat.le_of_ble_eq_true rfl) dX11_bankAfter_23 rfl (fun r4 => ?_)
  refine g_pop 27 hX dX11_bankAfter_26 rfl rfl ?_
  refine g_aload_n 28 0 hX dX11_bankAfter_27 rfl rfl ?_
  refine r_X11_42 31 hX dX11_bankAfter_28 rfl ?_
  refine r_X11_132 34 hX dX11_bankAfter_31 rfl ?_
  exact g_xr (b0 := ((.inl (kI r4.2 (kR r4.2 a0 5) 1), r4.2) : (Int32 ⊕ Nat) × kMem)) (v0 := (some (.int (kI r4.2 (kR r4.2 a0 5) 1)))) (fun b h => by cases h; rfl) (g_iret (b0 := ((.inl (kI r4.2 (kR r4.2 a0 5) 1), r4.2) : (Int32 ⊕ Nat) × kMem)) hX hr rfl (Nat.le_of_ble_eq_true rfl) (Nat.le_of_ble_eq_true rfl) dX11_bankAfter_34)
set_option maxRecDepth 100000 in
set_option maxHeartbeats 4000000 in
theorem k_X11_daysUntilFall (l : Launch) (g : kG) (hf : l.flags = flags0) (N : Nat) (M : kMem) (a0 : Nat) (x1 : Int32) : kMetX l g yX11_daysUntilFall cX11_daysUntilFall 3 (some .int) 7 1 6 [.ref a0, .int x1] M (kfin (fun v : Int32 => some (.int v))) (F_X11_daysUntilFall N M a0 x1) := by
  refine k_ofX (lv := [(0, .ref a0), (1, .int x1)]) RX11 (by decide) rfl rfl (Nat.le_of_ble_eq_true rfl) ?_
  intro p e s m args below meth c hX hr hh
  unfold F_X11_daysUntilFall
  refine g_aload_n 1 0 hX dX11_daysUntilFall_0 rfl rfl ?_
  refine g_iload_n 2 1 hX dX11_daysUntilFall_1 rfl rfl ?_
  refine g_callVX 5 hX (k_X11_existingTrader l g hf N M a0 x1) lk_X11_existingTrader rfl (ci := 11) rfl (Nat.le_of_ble_eq_true rfl) q_1346 q_33 (by omega) rfl (Nat.le_of_ble_eq_true rfl) (by decide) (by decide) (fun _ _ => rfl) hh (by decide) (by decide) dX11_daysUntilFall_2 rfl (fun r1 M2 => ?_)
  refine r_X11_194 8 hX dX11_daysUntilFall_5 rfl ?_
  refine g_klI (fun v3 hv3 => ?_)
  refine g_istore_n 9 2 [(2, .int v3), (0, .ref a0), (1, .int x1)] hX dX11_daysUntilFall_8 rfl rfl (Nat.le_of_ble_eq_true rfl) rfl ?_
  refine g_aload_n 10 1 hX dX11_daysUntilFall_9 rfl rfl ?_
  refine r_X11_42 13 hX dX11_daysUntilFall_10 rfl ?_
  refine g_aload_n 14 1 hX dX11_daysUntilFall_13 rfl rfl ?_
  refine r_X11_38 17 hX dX11_daysUntilFall_14 rfl ?_
  refine g_callV_v 20 hX (k_X4_copyFrom l g N M2 (kR M2 a0 5) (kR M2 a0 4)) lk_X4_copyFrom rfl (ci := 4) rfl (Nat.le_of_ble_eq_true rfl) q_695 q_697 (by omega) rfl (Nat.le_of_ble_eq_true rfl) (Nat.le_of_ble_eq_true rfl) (Nat.le_of_ble_eq_true rfl) dX11_daysUntilFall_17 rfl (fun M4 => ?_)
  refine g_aload_n 21 1 hX dX11_daysUntilFall_20 rfl rfl ?_
  refine r_X11_42 24 hX dX11_daysUntilFall_21 rfl ?_
  refine g_aload_n 25 1 hX dX11_daysUntilFall_24 rfl rfl ?_
  refine r_X11_42 28 hX dX11_daysUntilFall_25 rfl ?_
  refine g_iload_n 29 0 hX dX11_daysUntilFall_28 rfl rfl ?_
  refine g_callV_rp 32 hX (k_X4_traderNumbered l g N M4 (kR M4 a0 5) v3) lk_X4_traderNumbered rfl (ci := 4) rfl (Nat.le_of_ble_eq_true rfl) q_1350 q_980 (by omega) rfl (Nat.le_of_ble_eq_true rfl) (Nat.le_of_ble_eq_true rfl) (Nat.le_of_ble_eq_true rfl) dX11_daysUntilFall_29 rfl (fun r5 => ?_)
  refine g_callV_i 35 hX (k_X4_passDaysUntilFall l g N M4 (kR M4 a0 5) r5) lk_X4_passDaysUntilFall rfl (ci := 4) rfl (Nat.le_of_ble_eq_true rfl) q_1481 q_1483 (by omega) rfl (Nat.le_of_ble_eq_true rfl) (Nat.le_of_ble_eq_true rfl) (Nat.le_of_ble_eq_true rfl) dX11_daysUntilFall_32 rfl (fun r6 => ?_)
  exact g_xr (b0 := ((.inl r6.1, r6.2) : (Int32 ⊕ Nat) × kMem)) (v0 := (some (.int r6.1))) (fun b h => by cases h; rfl) (g_iret (b0 := ((.inl r6.1, r6.2) : (Int32 ⊕ Nat) × kMem)) hX hr rfl (Nat.le_of_ble_eq_true rfl) (Nat.le_of_ble_eq_true rfl) dX11_daysUntilFall_35)
set_option maxRecDepth 100000 in
set_option maxHeartbeats 4000000 in
theorem k_X11_daysUntilRetirement (l : Launch) (g : kG) (hf : l.flags = flags0) (N : Nat) (M : kMem) (a0 : Nat) (x1 : Int32) : kMetX l g yX11_daysUntilRetirement cX11_daysUntilRetirement 3 (some .int) 5 1 6 [.ref a0, .int x1] M (kfin (fun v : Int32 => some (.int v))) (F_X11_daysUntilRetirement N M a0 x1) := by
  refine k_ofX (lv := [(0, .ref a0), (1, .int x1)]) RX11 (by decide) rfl rfl (Nat.le_of_ble_eq_true rfl) ?_
  intro p e s m args below meth c hX hr hh
  unfold F_X11_daysUntilRetirement
  refine g_aload_n 1 0 hX dX11_daysUntilRetirement_0 rfl rfl ?_
  refine g_iload_n 2 1 hX dX11_daysUntilRetirement_1 rfl rfl ?_
  refine g_callVX 5 hX (k_X11_existingTrader l g hf N M a0 x1) lk_X11_existingTrader rfl (ci := 11) rfl (Nat.le_of_ble_eq_true rfl) q_1346 q_33 (by omega) rfl (Nat.le_of_ble_eq_true rfl) (by decide) (by decide) (fun _ _ => rfl) hh (by decide) (by decide) dX11_daysUntilRetirement_2 rfl (fun r1 M2 => ?_)
  refine g_astore_n 6 2 [(2, .ref r1), (0, .ref a0), (1, .int x1)] hX dX11_daysUntilRetirement_5 rfl rfl (Nat.le_of_ble_eq_true rfl) rfl ?_
  refine g_aload_n 7 0 hX dX11_daysUntilRetirement_6 rfl rfl ?_
  refine r_X11_220 10 hX dX11_daysUntilRetirement_7 rfl ?_
  refine g_if_eq 30 13 hX dX11_daysUntilRetirement_10 (by decide) rfl (fun _ => ?_) (fun _ => ?_)
  · refine g_iconst 31 hX 0 dX11_daysUntilRetirement_30 rfl kc_i_0 ?_
    exact g_xr (b0 := ((.inl 0, M2) : (Int32 ⊕ Nat) × kMem)) (v0 := (some (.int 0))) (fun b h => by cases h; rfl) (g_iret (b0 := ((.inl 0, M2) : (Int32 ⊕ Nat) × kMem)) hX hr rfl (Nat.le_of_ble_eq_true rfl) (Nat.le_of_ble_eq_true rfl) dX11_daysUntilRetirement_31)
  · refine g_aload_n 14 1 hX dX11_daysUntilRetirement_13 rfl rfl ?_
    refine r_X11_38 17 hX dX11_daysUntilRetirement_14 rfl ?_
    refine r_X11_141 20 hX dX11_daysUntilRetirement_17 rfl ?_
    refine g_aload_n 21 0 hX dX11_daysUntilRetirement_20 rfl rfl ?_
    refine r_X11_217 24 hX dX11_daysUntilRetirement_21 rfl ?_
    refine g_isub 25 hX dX11_daysUntilRetirement_24 rfl ?_
    refine g_iconst 26 hX 1 dX11_daysUntilRetirement_25 rfl kc_i_1 ?_
    refine g_iadd 27 hX dX11_daysUntilRetirement_26 rfl ?_
    refine g_goto 31 hX dX11_daysUntilRetirement_27 (by decide) ?_
    exact g_xr (b0 := ((.inl (((kI M2 (kR M2 a0 4) 5) - (kI M2 r1 4)) + 1), M2) : (Int32 ⊕ Nat) × kMem)) (v0 := (some (.int (((kI M2 (kR M2 a0 4) 5) - (kI M2 r1 4)) + 1)))) (fun b h => by cases h; rfl) (g_iret (b0 := ((.inl (((kI M2 (kR M2 a0 4) 5) - (kI M2 r1 4)) + 1), M2) : (Int32 ⊕ Nat) × kMem)) hX hr rfl (Nat.le_of_ble_eq_true rfl) (Nat.le_of_ble_eq_true rfl) dX11_daysUntilRetirement_31)
set_option maxRecDepth 100000 in
set_option maxHeartbeats 4000000 in
theorem k_X11_join (l : Launch) (g : kG) (hf : l.flags = flags0) (N : Nat) (M : kMem) (a0 : Nat) (x1 : Int32) (x2 : Int32) : kMetX l g yX11_join cX11_join 5 (some .int) 5 3 18 [.ref a0, .int x1, .int x2] M (kfin (fun v : Int32 => some (.int v))) (F_X11_join N M a0 x1 x2) := by
  refine k_ofX (lv := [(0, .ref a0), (1, .int x1), (2, .int x2)]) RX11 (by decide) rfl rfl (Nat.le_of_ble_eq_true rfl) ?_
  intro p e s m args below meth c hX hr hh
  unfold F_X11_join
  refine g_iload_n 1 1 hX dX11_join_0 rfl rfl ?_
  refine g_iconst 2 hX 1 dX11_join_1 rfl kc_i_1 ?_
  refine g_bipush 4 hX 99 dX11_join_2 rfl kc_b_99 ?_
  refine g_callSX 7 hX (k_X11_requireRange l g hf N M x1 1 99) lk_X11_requireRange q_1220 (by omega) rfl (Nat.le_of_ble_eq_true rfl) (by decide) (by decide) (fun _ _ => rfl) hh (by decide) (by decide) dX11_join_4 rfl (fun r1 M2 => ?_)
  refine g_iload_n 8 2 hX dX11_join_7 rfl rfl ?_
  refine g_iconst 9 hX 0 dX11_join_8 rfl kc_i_0 ?_
  refine g_sipush 12 hX 9999 dX11_join_9 rfl kc_s_9999 ?_
  refine g_callSX 15 hX (k_X11_requireRange l g hf N M2 x2 0 9999) lk_X11_requireRange q_1220 (by omega) rfl (Nat.le_of_ble_eq_true rfl) (by decide) (by decide) (fun _ _ => rfl) hh (by decide) (by decide) dX11_join_12 rfl (fun r3 M4 => ?_)
  refine g_aload_n 16 0 hX dX11_join_15 rfl rfl ?_
  refine r_X11_10 19 hX dX11_join_16 rfl ?_
  refine g_iconst 20 hX 0 dX11_join_19 rfl kc_i_0 ?_
  refine g_aload_n 21 0 hX dX11_join_20 rfl rfl ?_
  refine r_X11_10 24 hX dX11_join_21 rfl ?_
  refine r_X11_77 27 hX dX11_join_24 rfl ?_
  refine g_callV_lp 30 hX (k_X8_nameBetween l g N M4 (kR M4 a0 0) 0 (kI M4 (kR M4 a0 0) 1)) lk_X8_nameBetween rfl (ci := 8) rfl (Nat.le_of_ble_eq_true rfl) q_1022 q_636 (by omega) rfl (Nat.le_of_ble_eq_true rfl) (Nat.le_of_ble_eq_true rfl) (Nat.le_of_ble_eq_true rfl) dX11_join_27 rfl (fun r5 => ?_)
  refine g_lstore_n 31 3 [(3, .long r5), (0, .ref a0), (1, .int x1), (2, .int x2)] hX dX11_join_30 rfl rfl (Nat.le_of_ble_eq_true rfl) rfl ?_
  refine g_aload_n 32 1 hX dX11_join_31 rfl rfl ?_
  refine r_X11_38 35 hX dX11_join_32 rfl ?_
  refine g_lload_n 36 0 hX dX11_join_35 rfl rfl ?_
  refine g_callV_ip 39 hX (k_X4_canAdmit l g N M4 (kR M4 a0 4) r5) lk_X4_canAdmit rfl (ci := 4) rfl (Nat.le_of_ble_eq_true rfl) q_1500 q_835 (by omega) rfl (Nat.le_of_ble_eq_true rfl) (Nat.le_of_ble_eq_true rfl) (Nat.le_of_ble_eq_true rfl) dX11_join_36 rfl (fun r6 => ?_)
  refine g_if_ne 53 42 hX dX11_join_39 (by decide) rfl (fun _ => ?_) (fun _ => ?_)
  · refine g_aload_n 54 1 hX dX11_join_53 rfl rfl ?_
    refine r_X11_48 57 hX dX11_join_54 rfl ?_
    refine g_aload_n 58 1 hX dX11_join_57 rfl rfl ?_
    refine r_X11_38 61 hX dX11_join_58 rfl ?_
    refine g_callV_v 64 hX (k_X3_record l g N M4 (kR M4 a0 6) (kR M4 a0 4)) lk_X3_record rfl (ci := 3) rfl (Nat.le_of_ble_eq_true rfl) q_815 q_817 (by omega) rfl (Nat.le_of_ble_eq_true rfl) (Nat.le_of_ble_eq_true rfl) (Nat.le_of_ble_eq_true rfl) dX11_join_61 rfl (fun M7 => ?_)
    refine g_aload_n 65 1 hX dX11_join_64 rfl rfl ?_
    refine r_X11_10 68 hX dX11_join_65 rfl ?_
    refine g_iconst 69 hX 0 dX11_join_68 rfl kc_i_0 ?_
    refine p_X11_77 72 hX dX11_join_69 rfl ?_
    refine g_klM (fun M8 hM8 => ?_)
    refine g_aload_n 73 1 hX dX11_join_72 rfl rfl ?_
    refine r_X11_38 76 hX dX11_join_73 rfl ?_
    refine g_lload_n 77 0 hX dX11_join_76 rfl rfl ?_
    refine g_iload_n 78 2 hX dX11_join_77 rfl rfl ?_
    refine g_iload_n 79 3 hX dX11_join_78 rfl rfl ?_
    refine g_iconst 80 hX 0 dX11_join_79 rfl kc_i_0 ?_
    refine g_callV_i 83 hX (k_X4_admit l g N M8 (kR M8 a0 4) r5 x1 x2 0) lk_X4_admit rfl (ci := 4) rfl (Nat.le_of_ble_eq_true rfl) q_1502 q_650 (by omega) rfl (Nat.le_of_ble_eq_true rfl) (Nat.le_of_ble_eq_true rfl) (Nat.le_of_ble_eq_true rfl) dX11_join_80 rfl (fun r9 => ?_)
    exact g_xr (b0 := ((.inl r9.1, r9.2) : (Int32 ⊕ Nat) × kMem)) (v0 := (some (.int r9.1))) (fun b h => by cases h; rfl) (g_iret (b0 := ((.inl r9.1, r9.2) : (Int32 ⊕ Nat) × kMem)) hX hr rfl (Nat.le_of_ble_eq_true rfl) (Nat.le_of_ble_eq_true rfl) dX11_join_83)
  · exact g_throwW3 hX hf hh (i := 24) rfl dX11_join_42 dX11_join_45 dX11_join_46 dX11_join_49 dX11_join_52 (by decide) (by decide) (by decide) (by decide) (Nat.le_of_ble_eq_true rfl) (by decide)
set_option maxRecDepth 100000 in
set_option maxHeartbeats 4000000 in
theorem k_X11_requirePossible (l : Launch) (g : kG) (hf : l.flags = flags0) (N : Nat) (M : kMem) (x0 : Int32) : kMetX l g yX11_requirePossible cX11_requirePossible 1 none 4 1 6 [.int x0] M (kfin (fun _ : Unit => none)) (F_X11_requirePossible N M x0) := by
  refine k_ofX (lv := [(0, .int x0)]) RX11 (by decide) rfl rfl (Nat.le_of_ble_eq_true rfl) ?_
  intro p e s m args below meth c hX hr hh
  unfold F_X11_requirePossible
  refine g_iload_n 1 0 hX dX11_requirePossible_0 rfl rfl ?_
  refine g_if_eq 15 4 hX dX11_requirePossible_1 (by decide) rfl (fun _ => ?_) (fun _ => ?_)
  · exact g_xr (b0 := ((.inl (), M) : (Unit ⊕ Nat) × kMem)) (v0 := none) (fun b h => by cases h; rfl) (g_vret (b0 := ((.inl (), M) : (Unit ⊕ Nat) × kMem)) hX hr rfl (Nat.le_of_ble_eq_true rfl) (Nat.le_of_ble_eq_true rfl) dX11_requirePossible_15)
  · exact g_throwW3 hX hf hh (i := 25) rfl dX11_requirePossible_4 dX11_requirePossible_7 dX11_requirePossible_8 dX11_requirePossible_11 dX11_requirePossible_14 (by decide) (by decide) (by decide) (by decide) (Nat.le_of_ble_eq_true rfl) (by decide)
set_option maxRecDepth 100000 in
set_option maxHeartbeats 4000000 in
theorem k_X11_buySeat (l : Launch) (g : kG) (hf : l.flags = flags0) (N : Nat) (M : kMem) (a0 : Nat) (x1 : Int32) (x2 : Int32) (x3 : Int32) : kMetX l g yX11_buySeat cX11_buySeat 6 (some .int) 6 4 24 [.ref a0, .int x1, .int x2, .int x3] M (kfin (fun v : Int32 => some (.int v))) (F_X11_buySeat N M a0 x1 x2 x3) := by
  refine k_ofX (lv := [(0, .ref a0), (1, .int x1), (2, .int x2), (3, .int x3)]) RX11 (by decide) rfl rfl (Nat.le_of_ble_eq_true rfl) ?_
  intro p e s m args below meth c hX hr hh
  unfold F_X11_buySeat
  refine g_aload_n 1 0 hX dX11_buySeat_0 rfl rfl ?_
  refine g_iload_n 2 1 hX dX11_buySeat_1 rfl rfl ?_
  refine g_callVX 5 hX (k_X11_existingTrader l g hf N M a0 x1) lk_X11_existingTrader rfl (ci := 11) rfl (Nat.le_of_ble_eq_true rfl) q_1346 q_33 (by omega) rfl (Nat.le_of_ble_eq_true rfl) (by decide) (by decide) (fun _ _ => rfl) hh (by decide) (by decide) dX11_buySeat_2 rfl (fun r1 M2 => ?_)
  refine g_astore 7 4 [(4, .ref r1), (0, .ref a0), (1, .int x1), (2, .int x2), (3, .int x3)] hX dX11_buySeat_5 rfl (Nat.le_of_ble_eq_true rfl) rfl ?_
  refine g_aload_n 8 1 hX dX11_buySeat_7 rfl rfl ?_
  refine g_iload_n 9 3 hX dX11_buySeat_8 rfl rfl ?_
  refine g_iload_n 10 4 hX dX11_buySeat_9 rfl rfl ?_
  refine g_callVX 13 hX (k_X11_boardWithSeat l g hf N M2 a0 x2 x3) lk_X11_boardWithSeat rfl (ci := 11) rfl (Nat.le_of_ble_eq_true rfl) q_1305 q_32 (by omega) rfl (Nat.le_of_ble_eq_true rfl) (by decide) (by decide) (fun _ _ => rfl) hh (by decide) (by decide) dX11_buySeat_10 rfl (fun r3 M4 => ?_)
  refine g_astore 15 5 [(5, .ref r3), (4, .ref r1), (0, .ref a0), (1, .int x1), (2, .int x2), (3, .int x3)] hX dX11_buySeat_13 rfl (Nat.le_of_ble_eq_true rfl) rfl ?_
  refine g_aload_n 16 2 hX dX11_buySeat_15 rfl rfl ?_
  refine r_X11_38 19 hX dX11_buySeat_16 rfl ?_
  refine g_aload 21 1 hX dX11_buySeat_19 rfl rfl ?_
  refine g_aload 23 0 hX dX11_buySeat_21 rfl rfl ?_
  refine g_iload_n 24 5 hX dX11_buySeat_23 rfl rfl ?_
  refine g_callV_ip 27 hX (k_X4_whyNotSeat l g N M4 (kR M4 a0 4) r1 r3 x3) lk_X4_whyNotSeat rfl (ci := 4) rfl (Nat.le_of_ble_eq_true rfl) q_1413 q_848 (by omega) rfl (Nat.le_of_ble_eq_true rfl) (Nat.le_of_ble_eq_true rfl) (Nat.le_of_ble_eq_true rfl) dX11_buySeat_24 rfl (fun r5 => ?_)
  refine g_callSX 30 hX (k_X11_requirePossible l g hf N M4 r5) lk_X11_requirePossible q_1510 (by omega) rfl (Nat.le_of_ble_eq_true rfl) (by decide) (by decide) (fun _ _ => rfl) hh (by decide) (by decide) dX11_buySeat_27 rfl (fun r6 M7 => ?_)
  refine g_aload_n 31 2 hX dX11_buySeat_30 rfl rfl ?_
  refine r_X11_48 34 hX dX11_buySeat_31 rfl ?_
  refine g_aload_n 35 2 hX dX11_buySeat_34 rfl rfl ?_
  refine r_X11_38 38 hX dX11_buySeat_35 rfl ?_
  refine g_callV_v 41 hX (k_X3_record l g N M7 (kR M7 a0 6) (kR M7 a0 4)) lk_X3_record rfl (ci := 3) rfl (Nat.le_of_ble_eq_true rfl) q_815 q_817 (by omega) rfl (Nat.le_of_ble_eq_true rfl) (Nat.le_of_ble_eq_true rfl) (Nat.le_of_ble_eq_true rfl) dX11_buySeat_38 rfl (fun M8 => ?_)
  refine g_aload_n 42 2 hX dX11_buySeat_41 rfl rfl ?_
  refine r_X11_38 45 hX dX11_buySeat_42 rfl ?_
  refine g_aload 47 1 hX dX11_buySeat_45 rfl rfl ?_
  refine g_aload 49 0 hX dX11_buySeat_47 rfl rfl ?_
  refine g_iload_n 50 5 hX dX11_buySeat_49 rfl rfl ?_
  refine g_callV_i 53 hX (k_X4_sellSeat l g N M8 (kR M8 a0 4) r1 r3 x3) lk_X4_sellSeat rfl (ci := 4) rfl (Nat.le_of_ble_eq_true rfl) q_1514 q_886 (by omega) rfl (Nat.le_of_ble_eq_true rfl) (Nat.le_of_ble_eq_true rfl) (Nat.le_of_ble_eq_true rfl) dX11_buySeat_50 rfl (fun r9 => ?_)
  exact g_xr (b0 := ((.inl r9.1, r9.2) : (Int32 ⊕ Nat) × kMem)) (v0 := (some (.int r9.1))) (fun b h => by cases h; rfl) (g_iret (b0 := ((.inl r9.1, r9.2) : (Int32 ⊕ Nat) × kMem)) hX hr rfl (Nat.le_of_ble_eq_true rfl) (Nat.le_of_ble_eq_true rfl) dX11_buySeat_53)
set_option maxRecDepth 100000 in
set_option maxHeartbeats 4000000 in
theorem k_X11_leaveSeat (l : Launch) (g : kG) (hf : l.flags = flags0) (N : Nat) (M : kMem) (a0 : Nat) (x1 : Int32) : kMetX l g yX11_leaveSeat cX11_leaveSeat 4 (some .int) 5 2 12 [.ref a0, .int x1] M (kfin (fun v : Int32 => some (.int v))) (F_X11_leaveSeat N M a0 x1) := by
  refine k_ofX (lv := [(0, .ref a0), (1, .int x1)]) RX11 (by decide) rfl rfl (Nat.le_of_ble_eq_true rfl) ?_
  intro p e s m args below meth c hX hr hh
  unfold F_X11_leaveSeat
  refine g_aload_n 1 0 hX dX11_leaveSeat_0 rfl rfl ?_
  refine g_iload_n 2 1 hX dX11_leaveSeat_1 rfl rfl ?_
  refine g_callVX 5 hX (k_X11_existingTrader l g hf N M a0 x1) lk_X11_existingTrader rfl (ci := 11) rfl (Nat.le_of_ble_eq_true rfl) q_1346 q_33 (by omega) rfl (Nat.le_of_ble_eq_true rfl) (by decide) (by decide) (fun _ _ => rfl) hh (by decide) (by decide) dX11_leaveSeat_2 rfl (fun r1 M2 => ?_)
  refine g_astore_n 6 2 [(2, .ref r1), (0, .ref a0), (1, .int x1)] hX dX11_leaveSeat_5 rfl rfl (Nat.le_of_ble_eq_true rfl) rfl ?_
  refine g_aload_n 7 0 hX dX11_leaveSeat_6 rfl rfl ?_
  refine g_callSX 10 hX (k_X11_requireSeat l g hf N M2 r1) lk_X11_requireSeat q_1441 (by omega) rfl (Nat.le_of_ble_eq_true rfl) (by decide) (by decide) (fun _ _ => rfl) hh (by decide) (by decide) dX11_leaveSeat_7 rfl (fun r3 M4 => ?_)
  refine g_aload_n 11 1 hX dX11_leaveSeat_10 rfl rfl ?_
  refine r_X11_48 14 hX dX11_leaveSeat_11 rfl ?_
  refine g_aload_n 15 1 hX dX11_leaveSeat_14 rfl rfl ?_
  refine r_X11_38 18 hX dX11_leaveSeat_15 rfl ?_
  refine g_callV_v 21 hX (k_X3_record l g N M4 (kR M4 a0 6) (kR M4 a0 4)) lk_X3_record rfl (ci := 3) rfl (Nat.le_of_ble_eq_true rfl) q_815 q_817 (by omega) rfl (Nat.le_of_ble_eq_true rfl) (Nat.le_of_ble_eq_true rfl) (Nat.le_of_ble_eq_true rfl) dX11_leaveSeat_18 rfl (fun M5 => ?_)
  refine g_aload_n 22 0 hX dX11_leaveSeat_21 rfl rfl ?_
  refine r_X11_224 25 hX dX11_leaveSeat_22 rfl ?_
  refine g_klI (fun v6 hv6 => ?_)
  refine g_istore_n 26 3 [(3, .int v6), (2, .ref r1), (0, .ref a0), (1, .int x1)] hX dX11_leaveSeat_25 rfl rfl (Nat.le_of_ble_eq_true rfl) rfl ?_
  refine g_aload_n 27 2 hX dX11_leaveSeat_26 rfl rfl ?_
  refine r_X11_38 30 hX dX11_leaveSeat_27 rfl ?_
  refine g_aload_n 31 1 hX dX11_leaveSeat_30 rfl rfl ?_
  refine g_callV_v 34 hX (k_X4_unseat l g N M5 (kR M5 a0 4) r1) lk_X4_unseat rfl (ci := 4) rfl (Nat.le_of_ble_eq_true rfl) q_1522 q_890 (by omega) rfl (Nat.le_of_ble_eq_true rfl) (Nat.le_of_ble_eq_true rfl) (Nat.le_of_ble_eq_true rfl) dX11_leaveSeat_31 rfl (fun M7 => ?_)
  refine g_iload_n 35 0 hX dX11_leaveSeat_34 rfl rfl ?_
  exact g_xr (b0 := ((.inl v6, M7) : (Int32 ⊕ Nat) × kMem)) (v0 := (some (.int v6))) (fun b h => by cases h; rfl) (g_iret (b0 := ((.inl v6, M7) : (Int32 ⊕ Nat) × kMem)) hX hr rfl (Nat.le_of_ble_eq_true rfl) (Nat.le_of_ble_eq_true rfl) dX11_leaveSeat_35)
set_option maxRecDepth 100000 in
set_option maxHeartbeats 4000000 in
theorem k_X11_sellWeight (l : Launch) (g : kG) (hf : l.flags = flags0) (N : Nat) (M : kMem) (a0 : Nat) (x1 : Int32) (x2 : Int32) (x3 : Int32) : kMetX l g yX11_sellWeight cX11_sellWeight 6 (some .int) 5 5 30 [.ref a0, .int x1, .int x2, .int x3] M (kfin (fun v : Int32 => some (.int v))) (F_X11_sellWeight N M a0 x1 x2 x3) := by
  refine k_ofX (lv := [(0, .ref a0), (1, .int x1), (2, .int x2), (3, .int x3)]) RX11 (by decide) rfl rfl (Nat.le_of_ble_eq_true rfl) ?_
  intro p e s m args below meth c hX hr hh
  unfold F_X11_sellWeight
  refine g_aload_n 1 0 hX dX11_sellWeight_0 rfl rfl ?_
  refine g_iload_n 2 1 hX dX11_sellWeight_1 rfl rfl ?_
  refine g_callVX 5 hX (k_X11_existingTrader l g hf N M a0 x1) lk_X11_existingTrader rfl (ci := 11) rfl (Nat.le_of_ble_eq_true rfl) q_1346 q_33 (by omega) rfl (Nat.le_of_ble_eq_true rfl) (by decide) (by decide) (fun _ _ => rfl) hh (by decide) (by decide) dX11_sellWeight_2 rfl (fun r1 M2 => ?_)
  refine g_astore 7 4 [(4, .ref r1), (0, .ref a0), (1, .int x1), (2, .int x2), (3, .int x3)] hX dX11_sellWeight_5 rfl (Nat.le_of_ble_eq_true rfl) rfl ?_
  refine g_aload_n 8 1 hX dX11_sellWeight_7 rfl rfl ?_
  refine g_iload_n 9 3 hX dX11_sellWeight_8 rfl rfl ?_
  refine g_callVX 12 hX (k_X11_existingTrader l g hf N M2 a0 x2) lk_X11_existingTrader rfl (ci := 11) rfl (Nat.le_of_ble_eq_true rfl) q_1346 q_33 (by omega) rfl (Nat.le_of_ble_eq_true rfl) (by decide) (by decide) (fun _ _ => rfl) hh (by decide) (by decide) dX11_sellWeight_9 rfl (fun r3 M4 => ?_)
  refine g_astore 14 5 [(5, .ref r3), (4, .ref r1), (0, .ref a0), (1, .int x1), (2, .int x2), (3, .int x3)] hX dX11_sellWeight_12 rfl (Nat.le_of_ble_eq_true rfl) rfl ?_
  refine g_iload_n 15 3 hX dX11_sellWeight_14 rfl rfl ?_
  refine g_iload_n 16 4 hX dX11_sellWeight_15 rfl rfl ?_
  refine g_callSX 19 hX (k_X11_requireDifferent l g hf N M4 x1 x2) lk_X11_requireDifferent q_1421 (by omega) rfl (Nat.le_of_ble_eq_true rfl) (by decide) (by decide) (fun _ _ => rfl) hh (by decide) (by decide) dX11_sellWeight_16 rfl (fun r5 M6 => ?_)
  refine g_iload_n 20 5 hX dX11_sellWeight_19 rfl rfl ?_
  refine g_iconst 21 hX 1 dX11_sellWeight_20 rfl kc_i_1 ?_
  refine g_bipush 23 hX 50 dX11_sellWeight_21 rfl kc_b_50 ?_
  refine g_callSX 26 hX (k_X11_requireRange l g hf N M6 x3 1 50) lk_X11_requireRange q_1220 (by omega) rfl (Nat.le_of_ble_eq_true rfl) (by decide) (by decide) (fun _ _ => rfl) hh (by decide) (by decide) dX11_sellWeight_23 rfl (fun r7 M8 => ?_)
  refine g_aload_n 27 2 hX dX11_sellWeight_26 rfl rfl ?_
  refine r_X11_38 30 hX dX11_sellWeight_27 rfl ?_
  refine g_aload 32 1 hX dX11_sellWeight_30 rfl rfl ?_
  refine g_aload 34 0 hX dX11_sellWeight_32 rfl rfl ?_
  refine g_iload_n 35 5 hX dX11_sellWeight_34 rfl rfl ?_
  refine g_callV_ip 38 hX (k_X4_whyNotSale l g N M8 (kR M8 a0 4) r1 r3 x3) lk_X4_whyNotSale rfl (ci := 4) rfl (Nat.le_of_ble_eq_true rfl) q_1425 q_905 (by omega) rfl (Nat.le_of_ble_eq_true rfl) (Nat.le_of_ble_eq_true rfl) (Nat.le_of_ble_eq_true rfl) dX11_sellWeight_35 rfl (fun r9 => ?_)
  refine g_callSX 41 hX (k_X11_requirePossible l g hf N M8 r9) lk_X11_requirePossible q_1510 (by omega) rfl (Nat.le_of_ble_eq_true rfl) (by decide) (by decide) (fun _ _ => rfl) hh (by decide) (by decide) dX11_sellWeight_38 rfl (fun r10 M11 => ?_)
  refine g_aload_n 42 2 hX dX11_sellWeight_41 rfl rfl ?_
  refine r_X11_48 45 hX dX11_sellWeight_42 rfl ?_
  refine g_aload_n 46 2 hX dX11_sellWeight_45 rfl rfl ?_
  refine r_X11_38 49 hX dX11_sellWeight_46 rfl ?_
  refine g_callV_v 52 hX (k_X3_record l g N M11 (kR M11 a0 6) (kR M11 a0 4)) lk_X3_record rfl (ci := 3) rfl (Nat.le_of_ble_eq_true rfl) q_815 q_817 (by omega) rfl (Nat.le_of_ble_eq_true rfl) (Nat.le_of_ble_eq_true rfl) (Nat.le_of_ble_eq_true rfl) dX11_sellWeight_49 rfl (fun M12 => ?_)
  refine g_aload_n 53 2 hX dX11_sellWeight_52 rfl rfl ?_
  refine r_X11_38 56 hX dX11_sellWeight_53 rfl ?_
  refine g_aload 58 1 hX dX11_sellWeight_56 rfl rfl ?_
  refine g_aload 60 0 hX dX11_sellWeight_58 rfl rfl ?_
  refine g_iload_n 61 5 hX dX11_sellWeight_60 rfl rfl ?_
  refine g_callV_i 64 hX (k_X4_moveWeight l g N M12 (kR M12 a0 4) r1 r3 x3) lk_X4_moveWeight rfl (ci := 4) rfl (Nat.le_of_ble_eq_true rfl) q_1530 q_918 (by omega) rfl (Nat.le_of_ble_eq_true rfl) (Nat.le_of_ble_eq_true rfl) (Nat.le_of_ble_eq_true rfl) dX11_sellWeight_61 rfl (fun r13 => ?_)
  exact g_xr (b0 := ((.inl r13.1, r13.2) : (Int32 ⊕ Nat) × kMem)) (v0 := (some (.int r13.1))) (fun b h => by cases h; rfl) (g_iret (b0 := ((.inl r13.1, r13.2) : (Int32 ⊕ Nat) × kMem)) hX hr rfl (Nat.le_of_ble_eq_true rfl) (Nat.le_of_ble_eq_true rfl) dX11_sellWeight_64)
set_option maxRecDepth 100000 in
set_option maxHeartbeats 4000000 in
theorem k_X11_swapSeats (l : Launch) (g : kG) (hf : l.flags = flags0) (N : Nat) (M : kMem) (a0 : Nat) (x1 : Int32) (x2 : Int32) : kMetX l g yX11_swapSeats cX11_swapSeats 5 (some .int) 5 4 24 [.ref a0, .int x1, .int x2] M (kfin (fun v : Int32 => some (.int v))) (F_X11_swapSeats N M a0 x1 x2) := by
  refine k_ofX (lv := [(0, .ref a0), (1, .int x1), (2, .int x2)]) RX11 (by decide) rfl rfl (Nat.le_of_ble_eq_true rfl) ?_
  intro p e s m args below meth c hX hr hh
  unfold F_X11_swapSeats
  refine g_aload_n 1 0 hX dX11_swapSeats_0 rfl rfl ?_
  refine g_iload_n 2 1 hX dX11_swapSeats_1 rfl rfl ?_
  refine g_callVX 5 hX (k_X11_existingTrader l g hf N M a0 x1) lk_X11_existingTrader rfl (ci := 11) rfl (Nat.le_of_ble_eq_true rfl) q_1346 q_33 (by omega) rfl (Nat.le_of_ble_eq_true rfl) (by decide) (by decide) (fun _ _ => rfl) hh (by decide) (by decide) dX11_swapSeats_2 rfl (fun r1 M2 => ?_)
  refine g_astore_n 6 3 [(3, .ref r1), (0, .ref a0), (1, .int x1), (2, .int x2)] hX dX11_swapSeats_5 rfl rfl (Nat.le_of_ble_eq_true rfl) rfl ?_
  refine g_aload_n 7 1 hX dX11_swapSeats_6 rfl rfl ?_
  refine g_iload_n 8 3 hX dX11_swapSeats_7 rfl rfl ?_
  refine g_callVX 11 hX (k_X11_existingTrader l g hf N M2 a0 x2) lk_X11_existingTrader rfl (ci := 11) rfl (Nat.le_of_ble_eq_true rfl) q_1346 q_33 (by omega) rfl (Nat.le_of_ble_eq_true rfl) (by decide) (by decide) (fun _ _ => rfl) hh (by decide) (by decide) dX11_swapSeats_8 rfl (fun r3 M4 => ?_)
  refine g_astore 13 4 [(4, .ref r3), (3, .ref r1), (0, .ref a0), (1, .int x1), (2, .int x2)] hX dX11_swapSeats_11 rfl (Nat.le_of_ble_eq_true rfl) rfl ?_
  refine g_iload_n 14 3 hX dX11_swapSeats_13 rfl rfl ?_
  refine g_iload_n 15 4 hX dX11_swapSeats_14 rfl rfl ?_
  refine g_callSX 18 hX (k_X11_requireDifferent l g hf N M4 x1 x2) lk_X11_requireDifferent q_1421 (by omega) rfl (Nat.le_of_ble_eq_true rfl) (by decide) (by decide) (fun _ _ => rfl) hh (by decide) (by decide) dX11_swapSeats_15 rfl (fun r5 M6 => ?_)
  refine g_aload_n 19 2 hX dX11_swapSeats_18 rfl rfl ?_
  refine r_X11_38 22 hX dX11_swapSeats_19 rfl ?_
  refine g_aload_n 23 1 hX dX11_swapSeats_22 rfl rfl ?_
  refine g_aload 25 0 hX dX11_swapSeats_23 rfl rfl ?_
  refine g_callV_ip 28 hX (k_X4_whyNotSwap l g N M6 (kR M6 a0 4) r1 r3) lk_X4_whyNotSwap rfl (ci := 4) rfl (Nat.le_of_ble_eq_true rfl) q_1433 q_925 (by omega) rfl (Nat.le_of_ble_eq_true rfl) (Nat.le_of_ble_eq_true rfl) (Nat.le_of_ble_eq_true rfl) dX11_swapSeats_25 rfl (fun r7 => ?_)
  refine g_callSX 31 hX (k_X11_requirePossible l g hf N M6 r7) lk_X11_requirePossible q_1510 (by omega) rfl (Nat.le_of_ble_eq_true rfl) (by decide) (by decide) (fun _ _ => rfl) hh (by decide) (by decide) dX11_swapSeats_28 rfl (fun r8 M9 => ?_)
  refine g_aload_n 32 2 hX dX11_swapSeats_31 rfl rfl ?_
  refine r_X11_48 35 hX dX11_swapSeats_32 rfl ?_
  refine g_aload_n 36 2 hX dX11_swapSeats_35 rfl rfl ?_
  refine r_X11_38 39 hX dX11_swapSeats_36 rfl ?_
  refine g_callV_v 42 hX (k_X3_record l g N M9 (kR M9 a0 6) (kR M9 a0 4)) lk_X3_record rfl (ci := 3) rfl (Nat.le_of_ble_eq_true rfl) q_815 q_817 (by omega) rfl (Nat.le_of_ble_eq_true rfl) (Nat.le_of_ble_eq_true rfl) (Nat.le_of_ble_eq_true rfl) dX11_swapSeats_39 rfl (fun M10 => ?_)
  refine g_aload_n 43 2 hX dX11_swapSeats_42 rfl rfl ?_
  refine r_X11_38 46 hX dX11_swapSeats_43 rfl ?_
  refine g_aload_n 47 1 hX dX11_swapSeats_46 rfl rfl ?_
  refine g_aload 49 0 hX dX11_swapSeats_47 rfl rfl ?_
  refine g_callV_i 52 hX (k_X4_exchangeSeats l g N M10 (kR M10 a0 4) r1 r3) lk_X4_exchangeSeats rfl (ci := 4) rfl (Nat.le_of_ble_eq_true rfl) q_1538 q_933 (by omega) rfl (Nat.le_of_ble_eq_true rfl) (Nat.le_of_ble_eq_true rfl) (Nat.le_of_ble_eq_true rfl) dX11_swapSeats_49 rfl (fun r11 => ?_)
  exact g_xr (b0 := ((.inl r11.1, r11.2) : (Int32 ⊕ Nat) × kMem)) (v0 := (some (.int r11.1))) (fun b h => by cases h; rfl) (g_iret (b0 := ((.inl r11.1, r11.2) : (Int32 ⊕ Nat) × kMem)) hX hr rfl (Nat.le_of_ble_eq_true rfl) (Nat.le_of_ble_eq_true rfl) dX11_swapSeats_52)
set_option maxRecDepth 100000 in
set_option maxHeartbeats 4000000 in
theorem k_X11_setWage (l : Launch) (g : kG) (hf : l.flags = flags0) (N : Nat) (M : kMem) (a0 : Nat) (x1 : Int32) : kMetX l g yX11_setWage cX11_setWage 3 (some .int) 5 1 6 [.ref a0, .int x1] M (kfin (fun v : Int32 => some (.int v))) (F_X11_setWage N M a0 x1) := by
  refine k_ofX (lv := [(0, .ref a0), (1, .int x1)]) RX11 (by decide) rfl rfl (Nat.le_of_ble_eq_true rfl) ?_
  intro p e s m args below meth c hX hr hh
  unfold F_X11_setWage
  refine g_iload_n 1 1 hX dX11_setWage_0 rfl rfl ?_
  refine g_iconst 2 hX 0 dX11_setWage_1 rfl kc_i_0 ?_
  refine g_bipush 4 hX 20 dX11_setWage_2 rfl kc_b_20 ?_
  refine g_callSX 7 hX (k_X11_requireRange l g hf N M x1 0 20) lk_X11_requireRange q_1220 (by omega) rfl (Nat.le_of_ble_eq_true rfl) (by decide) (by decide) (fun _ _ => rfl) hh (by decide) (by decide) dX11_setWage_4 rfl (fun r1 M2 => ?_)
  refine g_aload_n 8 0 hX dX11_setWage_7 rfl rfl ?_
  refine r_X11_48 11 hX dX11_setWage_8 rfl ?_
  refine g_aload_n 12 0 hX dX11_setWage_11 rfl rfl ?_
  refine r_X11_38 15 hX dX11_setWage_12 rfl ?_
  refine g_callV_v 18 hX (k_X3_record l g N M2 (kR M2 a0 6) (kR M2 a0 4)) lk_X3_record rfl (ci := 3) rfl (Nat.le_of_ble_eq_true rfl) q_815 q_817 (by omega) rfl (Nat.le_of_ble_eq_true rfl) (Nat.le_of_ble_eq_true rfl) (Nat.le_of_ble_eq_true rfl) dX11_setWage_15 rfl (fun M3 => ?_)
  refine g_aload_n 19 0 hX dX11_setWage_18 rfl rfl ?_
  refine r_X11_38 22 hX dX11_setWage_19 rfl ?_
  refine r_X11_135 25 hX dX11_setWage_22 rfl ?_
  refine g_klI (fun v4 hv4 => ?_)
  refine g_istore_n 26 2 [(2, .int v4), (0, .ref a0), (1, .int x1)] hX dX11_setWage_25 rfl rfl (Nat.le_of_ble_eq_true rfl) rfl ?_
  refine g_aload_n 27 1 hX dX11_setWage_26 rfl rfl ?_
  refine r_X11_38 30 hX dX11_setWage_27 rfl ?_
  refine g_iload_n 31 2 hX dX11_setWage_30 rfl rfl ?_
  refine p_X11_135 34 hX dX11_setWage_31 rfl ?_
  refine g_klM (fun M5 hM5 => ?_)
  refine g_iload_n 35 0 hX dX11_setWage_34 rfl rfl ?_
  exact g_xr (b0 := ((.inl v4, M5) : (Int32 ⊕ Nat) × kMem)) (v0 := (some (.int v4))) (fun b h => by cases h; rfl) (g_iret (b0 := ((.inl v4, M5) : (Int32 ⊕ Nat) × kMem)) hX hr rfl (Nat.le_of_ble_eq_true rfl) (Nat.le_of_ble_eq_true rfl) dX11_setWage_35)
set_option maxRecDepth 100000 in
set_option maxHeartbeats 4000000 in
theorem k_X11_advance (l : Launch) (g : kG) (hf : l.flags = flags0) (N : Nat) (M : kMem) (a0 : Nat) (x1 : Int32) : kMetX l g yX11_advance cX11_advance 2 (some .int) 6 2 12 [.ref a0, .int x1] M (kfin (fun v : Int32 => some (.int v))) (F_X11_advance N M a0 x1) := by
  refine k_ofX (lv := [(0, .ref a0), (1, .int x1)]) RX11 (by decide) rfl rfl (Nat.le_of_ble_eq_true rfl) ?_
  intro p e s m args below meth c hX hr hh
  unfold F_X11_advance
  refine g_iload_n 1 1 hX dX11_advance_0 rfl rfl ?_
  refine g_iconst 2 hX 1 dX11_advance_1 rfl kc_i_1 ?_
  refine g_bipush 4 hX 30 dX11_advance_2 rfl kc_b_30 ?_
  refine g_callSX 7 hX (k_X11_requireRange l g hf N M x1 1 30) lk_X11_requireRange q_1220 (by omega) rfl (Nat.le_of_ble_eq_true rfl) (by decide) (by decide) (fun _ _ => rfl) hh (by decide) (by decide) dX11_advance_4 rfl (fun r1 M2 => ?_)
  refine g_aload_n 8 0 hX dX11_advance_7 rfl rfl ?_
  refine r_X11_38 11 hX dX11_advance_8 rfl ?_
  refine g_iload_n 12 1 hX dX11_advance_11 rfl rfl ?_
  refine g_callV_ip 15 hX (k_X4_allowsDays l g N M2 (kR M2 a0 4) x1) lk_X4_allowsDays rfl (ci := 4) rfl (Nat.le_of_ble_eq_true rfl) q_1553 q_937 (by omega) rfl (Nat.le_of_ble_eq_true rfl) (Nat.le_of_ble_eq_true rfl) (Nat.le_of_ble_eq_true rfl) dX11_advance_12 rfl (fun r3 => ?_)
  refine g_if_ne 29 18 hX dX11_advance_15 (by decide) rfl (fun _ => ?_) (fun _ => ?_)
  · refine g_aload_n 30 0 hX dX11_advance_29 rfl rfl ?_
    refine r_X11_48 33 hX dX11_advance_30 rfl ?_
    refine g_aload_n 34 0 hX dX11_advance_33 rfl rfl ?_
    refine r_X11_38 37 hX dX11_advance_34 rfl ?_
    refine g_callV_v 40 hX (k_X3_record l g N M2 (kR M2 a0 6) (kR M2 a0 4)) lk_X3_record rfl (ci := 3) rfl (Nat.le_of_ble_eq_true rfl) q_815 q_817 (by omega) rfl (Nat.le_of_ble_eq_true rfl) (Nat.le_of_ble_eq_true rfl) (Nat.le_of_ble_eq_true rfl) dX11_advance_37 rfl (fun M4 => ?_)
    refine g_aload_n 41 0 hX dX11_advance_40 rfl rfl ?_
    refine r_X11_38 44 hX dX11_advance_41 rfl ?_
    refine g_iload_n 45 1 hX dX11_advance_44 rfl rfl ?_
    refine g_callV_i 48 hX (k_X4_passDays l g N M4 (kR M4 a0 4) x1) lk_X4_passDays rfl (ci := 4) rfl (Nat.le_of_ble_eq_true rfl) q_1466 q_941 (by omega) rfl (Nat.le_of_ble_eq_true rfl) (Nat.le_of_ble_eq_true rfl) (Nat.le_of_ble_eq_true rfl) dX11_advance_45 rfl (fun r5 => ?_)
    exact g_xr (b0 := ((.inl r5.1, r5.2) : (Int32 ⊕ Nat) × kMem)) (v0 := (some (.int r5.1))) (fun b h => by cases h; rfl) (g_iret (b0 := ((.inl r5.1, r5.2) : (Int32 ⊕ Nat) × kMem)) hX hr rfl (Nat.le_of_ble_eq_true rfl) (Nat.le_of_ble_eq_true rfl) dX11_advance_48)
  · exact g_throwW3 hX hf hh (i := 26) rfl dX11_advance_18 dX11_advance_21 dX11_advance_22 dX11_advance_25 dX11_advance_28 (by decide) (by decide) (by decide) (by decide) (Nat.le_of_ble_eq_true rfl) (by decide)
set_option maxRecDepth 100000 in
set_option maxHeartbeats 4000000 in
theorem k_X11_writeBoard_20 {p : Program} {l : Launch} {e : Env} {s : State} {m : MethodId} {args : Array Value} {below : List Frame} {meth : Method} {c : Code} {g : kG} (hX : Cok (p, l, e, { frames := 2 * 5, cells := 1, slots := 6, locals := 60 * 5 }, s, m, args, below, meth, c, cX11_writeBoard, 4, RX11, g, 5)) (hr : meth.sig.returnType = (some .int)) (hf : l.flags = flags0) (hh : c.exceptionTable.toList = []) (N : Nat) : ∀ (n : Nat) (M : kMem) (a0 : Nat) (a2 : Nat) (x3 : Int32), GG (p, l, e, { frames := 2 * 5, cells := 1, slots := 6, locals := 60 * 5 }, s, m, args, below, meth, c, cX11_writeBoard, 4, RX11, g, 5) (fun b => vx_MQ below (kQX g ((kfin (fun v : Int32 => some (.int v))) b)) (kXX g ((kfin (fun v : Int32 => some (.int v))) b)) args s 1 6 (kZ g.2.2.1)) (1) (6) (F_X11_writeBoard_20 N n M a0 a2 x3) 20 [(0, .ref a0), (2, .ref a2), (3, .int x3)] [] M := by
  intro n
  induction n with
  | zero => intro _ _ _ _; exact g_none
  | succ n ih =>
    intro M a0 a2 x3
    unfold F_X11_writeBoard_20
    refine g_iload_n 21 2 hX dX11_writeBoard_20 rfl rfl ?_
    refine g_aload_n 22 1 hX dX11_writeBoard_21 rfl rfl ?_
    refine r_X11_151 25 hX dX11_writeBoard_22 rfl ?_
    refine g_icmp_gt 59 28 hX dX11_writeBoard_25 (by decide) rfl (fun _ => ?_) (fun _ => ?_)
    · refine g_aload_n 60 0 hX dX11_writeBoard_59 rfl rfl ?_
      refine r_X11_16 63 hX dX11_writeBoard_60 rfl ?_
      refine r_X11_77 66 hX dX11_writeBoard_63 rfl ?_
      exact g_xr (b0 := ((.inl (kI M (kR M a0 1) 1), M) : (Int32 ⊕ Nat) × kMem)) (v0 := (some (.int (kI M (kR M a0 1) 1)))) (fun b h => by cases h; rfl) (g_iret (b0 := ((.inl (kI M (kR M a0 1) 1), M) : (Int32 ⊕ Nat) × kMem)) hX hr rfl (Nat.le_of_ble_eq_true rfl) (Nat.le_of_ble_eq_true rfl) dX11_writeBoard_66)
    · refine g_aload_n 29 0 hX dX11_writeBoard_28 rfl rfl ?_
      refine r_X11_16 32 hX dX11_writeBoard_29 rfl ?_
      refine r_X11_77 35 hX dX11_writeBoard_32 rfl ?_
      refine g_if_le 47 38 hX dX11_writeBoard_35 (by decide) rfl (fun _ => ?_) (fun _ => ?_)
      · refine g_aload_n 48 0 hX dX11_writeBoard_47 rfl rfl ?_
        refine g_aload_n 49 1 hX dX11_writeBoard_48 rfl rfl ?_
        refine g_iload_n 50 2 hX dX11_writeBoard_49 rfl rfl ?_
        refine g_callV_v 53 hX (k_X11_writePlace l g N M a0 a2 x3) lk_X11_writePlace rfl (ci := 11) rfl (Nat.le_of_ble_eq_true rfl) q_1563 q_34 (by omega) rfl (Nat.le_of_ble_eq_true rfl) (Nat.le_of_ble_eq_true rfl) (Nat.le_of_ble_eq_true rfl) dX11_writeBoard_50 rfl (fun M5 => ?_)
        refine g_kl (fun v6 hv6 => ?_)
        refine g_iinc 56 3 2 v6 [(3, .int v6), (0, .ref a0), (2, .ref a2)] hX dX11_writeBoard_53 rfl rfl (by rw [hv6, kc_i_1]) (Nat.le_of_ble_eq_true rfl) rfl ?_
        refine g_goto 20 hX dX11_writeBoard_56 (by decide) ?_
        refine g_lv [1, 2, 0] rfl ?_
        exact ih M5 a0 a2 v6
      · refine g_aload_n 39 0 hX dX11_writeBoard_38 rfl rfl ?_
        refine r_X11_16 42 hX dX11_writeBoard_39 rfl ?_
        refine g_bipush 44 hX 32 dX11_writeBoard_42 rfl kc_b_32 ?_
        refine g_callV_v 47 hX (k_X8_add l g N M (kR M a0 1) 32) lk_X8_add rfl (ci := 8) rfl (Nat.le_of_ble_eq_true rfl) q_1562 q_513 (by omega) rfl (Nat.le_of_ble_eq_true rfl) (Nat.le_of_ble_eq_true rfl) (Nat.le_of_ble_eq_true rfl) dX11_writeBoard_44 rfl (fun M7 => ?_)
        refine g_aload_n 48 0 hX dX11_writeBoard_47 rfl rfl ?_
        refine g_aload_n 49 1 hX dX11_writeBoard_48 rfl rfl ?_
        refine g_iload_n 50 2 hX dX11_writeBoard_49 rfl rfl ?_
        refine g_callV_v 53 hX (k_X11_writePlace l g N M7 a0 a2 x3) lk_X11_writePlace rfl (ci := 11) rfl (Nat.le_of_ble_eq_true rfl) q_1563 q_34 (by omega) rfl (Nat.le_of_ble_eq_true rfl) (Nat.le_of_ble_eq_true rfl) (Nat.le_of_ble_eq_true rfl) dX11_writeBoard_50 rfl (fun M8 => ?_)
        refine g_kl (fun v9 hv9 => ?_)
        refine g_iinc 56 3 2 v9 [(3, .int v9), (0, .ref a0), (2, .ref a2)] hX dX11_writeBoard_53 rfl rfl (by rw [hv9, kc_i_1]) (Nat.le_of_ble_eq_true rfl) rfl ?_
        refine g_goto 20 hX dX11_writeBoard_56 (by decide) ?_
        refine g_lv [1, 2, 0] rfl ?_
        exact ih M8 a0 a2 v9
set_option maxRecDepth 100000 in
set_option maxHeartbeats 4000000 in
theorem k_X11_writeBoard (l : Launch) (g : kG) (hf : l.flags = flags0) (N : Nat) (M : kMem) (a0 : Nat) (x1 : Int32) : kMetX l g yX11_writeBoard cX11_writeBoard 4 (some .int) 5 1 6 [.ref a0, .int x1] M (kfin (fun v : Int32 => some (.int v))) (F_X11_writeBoard N M a0 x1) := by
  refine k_ofX (lv := [(0, .ref a0), (1, .int x1)]) RX11 (by decide) rfl rfl (Nat.le_of_ble_eq_true rfl) ?_
  intro p e s m args below meth c hX hr hh
  unfold F_X11_writeBoard
  refine g_aload_n 1 0 hX dX11_writeBoard_0 rfl rfl ?_
  refine g_iload_n 2 1 hX dX11_writeBoard_1 rfl rfl ?_
  refine g_callVX 5 hX (k_X11_existingBoard l g hf N M a0 x1) lk_X11_existingBoard rfl (ci := 11) rfl (Nat.le_of_ble_eq_true rfl) q_1247 q_31 (by omega) rfl (Nat.le_of_ble_eq_true rfl) (by decide) (by decide) (fun _ _ => rfl) hh (by decide) (by decide) dX11_writeBoard_2 rfl (fun r1 M2 => ?_)
  refine g_astore_n 6 2 [(2, .ref r1), (0, .ref a0), (1, .int x1)] hX dX11_writeBoard_5 rfl rfl (Nat.le_of_ble_eq_true rfl) rfl ?_
  refine g_aload_n 7 1 hX dX11_writeBoard_6 rfl rfl ?_
  refine r_X11_16 10 hX dX11_writeBoard_7 rfl ?_
  refine g_iconst 11 hX 0 dX11_writeBoard_10 rfl kc_i_0 ?_
  refine p_X11_77 14 hX dX11_writeBoard_11 rfl ?_
  refine g_klM (fun M3 hM3 => ?_)
  refine g_aload_n 15 0 hX dX11_writeBoard_14 rfl rfl ?_
  refine r_X11_151 18 hX dX11_writeBoard_15 rfl ?_
  refine g_ineg 19 hX dX11_writeBoard_18 rfl ?_
  refine g_klI (fun v4 hv4 => ?_)
  refine g_istore_n 20 3 [(3, .int v4), (2, .ref r1), (0, .ref a0), (1, .int x1)] hX dX11_writeBoard_19 rfl rfl (Nat.le_of_ble_eq_true rfl) rfl ?_
  refine g_lv [2, 1, 0] rfl ?_
  exact k_X11_writeBoard_20 hX hr hf hh N N M3 a0 r1 v4
set_option maxRecDepth 100000 in
set_option maxHeartbeats 4000000 in
theorem k_X11_undo (l : Launch) (g : kG) (hf : l.flags = flags0) (N : Nat) (M : kMem) (a0 : Nat) : kMetX l g yX11_undo cX11_undo 1 (some .int) 4 1 6 [.ref a0] M (kfin (fun v : Int32 => some (.int v))) (F_X11_undo N M a0) := by
  refine k_ofX (lv := [(0, .ref a0)]) RX11 (by decide) rfl rfl (Nat.le_of_ble_eq_true rfl) ?_
  intro p e s m args below meth c hX hr hh
  unfold F_X11_undo
  refine g_aload_n 1 0 hX dX11_undo_0 rfl rfl ?_
  refine r_X11_48 4 hX dX11_undo_1 rfl ?_
  refine r_X11_357 7 hX dX11_undo_4 rfl ?_
  refine g_if_ne 21 10 hX dX11_undo_7 (by decide) rfl (fun _ => ?_) (fun _ => ?_)
  · refine g_aload_n 22 0 hX dX11_undo_21 rfl rfl ?_
    refine r_X11_48 25 hX dX11_undo_22 rfl ?_
    refine g_aload_n 26 0 hX dX11_undo_25 rfl rfl ?_
    refine r_X11_38 29 hX dX11_undo_26 rfl ?_
    refine g_callV_v 32 hX (k_X3_takeBack l g N M (kR M a0 6) (kR M a0 4)) lk_X3_takeBack rfl (ci := 3) rfl (Nat.le_of_ble_eq_true rfl) q_1580 q_1582 (by omega) rfl (Nat.le_of_ble_eq_true rfl) (Nat.le_of_ble_eq_true rfl) (Nat.le_of_ble_eq_true rfl) dX11_undo_29 rfl (fun M1 => ?_)
    refine g_aload_n 33 0 hX dX11_undo_32 rfl rfl ?_
    refine r_X11_48 36 hX dX11_undo_33 rfl ?_
    refine r_X11_357 39 hX dX11_undo_36 rfl ?_
    exact g_xr (b0 := ((.inl (kI M1 (kR M1 a0 6) 2), M1) : (Int32 ⊕ Nat) × kMem)) (v0 := (some (.int (kI M1 (kR M1 a0 6) 2)))) (fun b h => by cases h; rfl) (g_iret (b0 := ((.inl (kI M1 (kR M1 a0 6) 2), M1) : (Int32 ⊕ Nat) × kMem)) hX hr rfl (Nat.le_of_ble_eq_true rfl) (Nat.le_of_ble_eq_true rfl) dX11_undo_39)
  · exact g_throwW3 hX hf hh (i := 27) rfl dX11_undo_10 dX11_undo_13 dX11_undo_14 dX11_undo_17 dX11_undo_20 (by decide) (by decide) (by decide) (by decide) (Nat.le_of_ble_eq_true rfl) (by decide)
set_option maxRecDepth 100000 in
set_option maxHeartbeats 4000000 in
theorem k_X11_existingSlot (l : Launch) (g : kG) (hf : l.flags = flags0) (N : Nat) (M : kMem) (a0 : Nat) (x1 : Int32) : kMetX l g yX11_existingSlot cX11_existingSlot 2 (some (.object "SeesawMarket$Market")) 4 1 6 [.ref a0, .int x1] M (kfin (fun v : Nat => some (.ref v))) (F_X11_existingSlot N M a0 x1) := by
  refine k_ofX (lv := [(0, .ref a0), (1, .int x1)]) RX11 (by decide) rfl rfl (Nat.le_of_ble_eq_true rfl) ?_
  intro p e s m args below meth c hX hr hh
  unfold F_X11_existingSlot
  refine g_iload_n 1 1 hX dX11_existingSlot_0 rfl rfl ?_
  refine g_if_lt 13 4 hX dX11_existingSlot_1 (by decide) rfl (fun _ => ?_) (fun _ => ?_)
  · exact g_throwW1 hX hf hh (i := 28) rfl dX11_existingSlot_13 dX11_existingSlot_16 dX11_existingSlot_17 dX11_existingSlot_20 dX11_existingSlot_23 (by decide) (by decide) (by decide) (by decide) (Nat.le_of_ble_eq_true rfl) (by decide)
  · refine g_iload_n 5 1 hX dX11_existingSlot_4 rfl rfl ?_
    refine g_aload_n 6 0 hX dX11_existingSlot_5 rfl rfl ?_
    refine r_X11_52 9 hX dX11_existingSlot_6 rfl ?_
    refine g_alenR 18 5 10 hX RX4 (Nat.le_of_ble_eq_true rfl) rfl dX11_existingSlot_9 rfl ?_
    refine g_icmp_lt 24 13 hX dX11_existingSlot_10 (by decide) rfl (fun _ => ?_) (fun _ => ?_)
    · refine g_aload_n 25 0 hX dX11_existingSlot_24 rfl rfl ?_
      refine r_X11_52 28 hX dX11_existingSlot_25 rfl ?_
      refine g_iload_n 29 1 hX dX11_existingSlot_28 rfl rfl ?_
      refine g_aald 18 5 30 hX RX4 (Nat.le_of_ble_eq_true rfl) rfl dX11_existingSlot_29 rfl ?_
      exact g_xr (b0 := ((.inl (kR M (kR M a0 7) (kx x1)), M) : (Nat ⊕ Nat) × kMem)) (v0 := (some (.ref (kR M (kR M a0 7) (kx x1))))) (fun b h => by cases h; rfl) (g_aret (b0 := ((.inl (kR M (kR M a0 7) (kx x1)), M) : (Nat ⊕ Nat) × kMem)) hX hr (Or.inl ⟨_, rfl⟩) rfl (Nat.le_of_ble_eq_true rfl) (Nat.le_of_ble_eq_true rfl) dX11_existingSlot_30)
    · exact g_throwW1 hX hf hh (i := 28) rfl dX11_existingSlot_13 dX11_existingSlot_16 dX11_existingSlot_17 dX11_existingSlot_20 dX11_existingSlot_23 (by decide) (by decide) (by decide) (by decide) (Nat.le_of_ble_eq_true rfl) (by decide)
set_option maxRecDepth 100000 in
set_option maxHeartbeats 4000000 in
theorem k_X11_save (l : Launch) (g : kG) (hf : l.flags = flags0) (N : Nat) (M : kMem) (a0 : Nat) (x1 : Int32) : kMetX l g yX11_save cX11_save 3 (some .int) 5 1 6 [.ref a0, .int x1] M (kfin (fun v : Int32 => some (.int v))) (F_X11_save N M a0 x1) := by
  refine k_ofX (lv := [(0, .ref a0), (1, .int x1)]) RX11 (by decide) rfl rfl (Nat.le_of_ble_eq_true rfl) ?_
  intro p e s m args below meth c hX hr hh
  unfold F_X11_save
  refine g_aload_n 1 0 hX dX11_save_0 rfl rfl ?_
  refine g_iload_n 2 1 hX dX11_save_1 rfl rfl ?_
  refine g_callVX 5 hX (k_X11_existingSlot l g hf N M a0 x1) lk_X11_existingSlot rfl (ci := 11) rfl (Nat.le_of_ble_eq_true rfl) q_1591 q_35 (by omega) rfl (Nat.le_of_ble_eq_true rfl) (by decide) (by decide) (fun _ _ => rfl) hh (by decide) (by decide) dX11_save_2 rfl (fun r1 M2 => ?_)
  refine g_astore_n 6 2 [(2, .ref r1), (0, .ref a0), (1, .int x1)] hX dX11_save_5 rfl rfl (Nat.le_of_ble_eq_true rfl) rfl ?_
  refine g_aload_n 7 0 hX dX11_save_6 rfl rfl ?_
  refine g_aload_n 8 1 hX dX11_save_7 rfl rfl ?_
  refine r_X11_38 11 hX dX11_save_8 rfl ?_
  refine g_callV_v 14 hX (k_X4_copyFrom l g N M2 r1 (kR M2 a0 4)) lk_X4_copyFrom rfl (ci := 4) rfl (Nat.le_of_ble_eq_true rfl) q_695 q_697 (by omega) rfl (Nat.le_of_ble_eq_true rfl) (Nat.le_of_ble_eq_true rfl) (Nat.le_of_ble_eq_true rfl) dX11_save_11 rfl (fun M3 => ?_)
  refine g_aload_n 15 1 hX dX11_save_14 rfl rfl ?_
  refine r_X11_56 18 hX dX11_save_15 rfl ?_
  refine g_iload_n 19 2 hX dX11_save_18 rfl rfl ?_
  refine g_iconst 20 hX 1 dX11_save_19 rfl kc_i_1 ?_
  refine g_zast 21 hX dX11_save_20 rfl ?_
  refine g_klM (fun M4 hM4 => ?_)
  refine g_aload_n 22 1 hX dX11_save_21 rfl rfl ?_
  refine r_X11_38 25 hX dX11_save_22 rfl ?_
  refine r_X11_129 28 hX dX11_save_25 rfl ?_
  exact g_xr (b0 := ((.inl (kI M4 (kR M4 a0 4) 0), M4) : (Int32 ⊕ Nat) × kMem)) (v0 := (some (.int (kI M4 (kR M4 a0 4) 0)))) (fun b h => by cases h; rfl) (g_iret (b0 := ((.inl (kI M4 (kR M4 a0 4) 0), M4) : (Int32 ⊕ Nat) × kMem)) hX hr rfl (Nat.le_of_ble_eq_true rfl) (Nat.le_of_ble_eq_true rfl) dX11_save_28)
set_option maxRecDepth 100000 in
set_option maxHeartbeats 4000000 in
theorem k_X11_restore (l : Launch) (g : kG) (hf : l.flags = flags0) (N : Nat) (M : kMem) (a0 : Nat) (x1 : Int32) : kMetX l g yX11_restore cX11_restore 3 (some .int) 5 2 12 [.ref a0, .int x1] M (kfin (fun v : Int32 => some (.int v))) (F_X11_restore N M a0 x1) := by
  refine k_ofX (lv := [(0, .ref a0), (1, .int x1)]) RX11 (by decide) rfl rfl (Nat.le_of_ble_eq_true rfl) ?_
  intro p e s m args below meth c hX hr hh
  unfold F_X11_restore
  refine g_aload_n 1 0 hX dX11_restore_0 rfl rfl ?_
  refine g_iload_n 2 1 hX dX11_restore_1 rfl rfl ?_
  refine g_callVX 5 hX (k_X11_existingSlot l g hf N M a0 x1) lk_X11_existingSlot rfl (ci := 11) rfl (Nat.le_of_ble_eq_true rfl) q_1591 q_35 (by omega) rfl (Nat.le_of_ble_eq_true rfl) (by decide) (by decide) (fun _ _ => rfl) hh (by decide) (by decide) dX11_restore_2 rfl (fun r1 M2 => ?_)
  refine g_astore_n 6 2 [(2, .ref r1), (0, .ref a0), (1, .int x1)] hX dX11_restore_5 rfl rfl (Nat.le_of_ble_eq_true rfl) rfl ?_
  refine g_aload_n 7 1 hX dX11_restore_6 rfl rfl ?_
  refine r_X11_56 10 hX dX11_restore_7 rfl ?_
  refine g_iload_n 11 2 hX dX11_restore_10 rfl rfl ?_
  refine g_zald 12 hX dX11_restore_11 rfl ?_
  refine g_if_ne 26 15 hX dX11_restore_12 (by decide) rfl (fun _ => ?_) (fun _ => ?_)
  · refine g_aload_n 27 1 hX dX11_restore_26 rfl rfl ?_
    refine r_X11_38 30 hX dX11_restore_27 rfl ?_
    refine g_aload_n 31 0 hX dX11_restore_30 rfl rfl ?_
    refine g_callV_v 34 hX (k_X4_copyFrom l g N M2 (kR M2 a0 4) r1) lk_X4_copyFrom rfl (ci := 4) rfl (Nat.le_of_ble_eq_true rfl) q_695 q_697 (by omega) rfl (Nat.le_of_ble_eq_true rfl) (Nat.le_of_ble_eq_true rfl) (Nat.le_of_ble_eq_true rfl) dX11_restore_31 rfl (fun M3 => ?_)
    refine g_aload_n 35 1 hX dX11_restore_34 rfl rfl ?_
    refine r_X11_48 38 hX dX11_restore_35 rfl ?_
    refine g_callV_v 41 hX (k_X3_forget l g N M3 (kR M3 a0 6)) lk_X3_forget rfl (ci := 3) rfl (Nat.le_of_ble_eq_true rfl) q_715 q_717 (by omega) rfl (Nat.le_of_ble_eq_true rfl) (Nat.le_of_ble_eq_true rfl) (Nat.le_of_ble_eq_true rfl) dX11_restore_38 rfl (fun M4 => ?_)
    refine g_aload_n 42 1 hX dX11_restore_41 rfl rfl ?_
    refine r_X11_38 45 hX dX11_restore_42 rfl ?_
    refine r_X11_129 48 hX dX11_restore_45 rfl ?_
    exact g_xr (b0 := ((.inl (kI M4 (kR M4 a0 4) 0), M4) : (Int32 ⊕ Nat) × kMem)) (v0 := (some (.int (kI M4 (kR M4 a0 4) 0)))) (fun b h => by cases h; rfl) (g_iret (b0 := ((.inl (kI M4 (kR M4 a0 4) 0), M4) : (Int32 ⊕ Nat) × kMem)) hX hr rfl (Nat.le_of_ble_eq_true rfl) (Nat.le_of_ble_eq_true rfl) dX11_restore_48)
  · exact g_throwW3 hX hf hh (i := 29) rfl dX11_restore_15 dX11_restore_18 dX11_restore_19 dX11_restore_22 dX11_restore_25 (by decide) (by decide) (by decide) (by decide) (Nat.le_of_ble_eq_true rfl) (by decide)
