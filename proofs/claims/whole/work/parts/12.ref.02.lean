set_option maxRecDepth 100000 in
set_option maxHeartbeats 4000000 in
theorem k_X12_four_3 {p : Program} {l : Launch} {e : Env} {s : State} {m : MethodId} {args : Array Value} {below : List Frame} {meth : Method} {c : Code} {g : kG} (hX : Cok (p, l, e, { frames := 2 * 1, cells := 0, slots := 0, locals := 60 * 1 }, s, m, args, below, meth, c, cX12_four, 3, RX12, g, 1)) (hr : meth.sig.returnType = none) (N : Nat) : ∀ (n : Nat) (M : kMem) (a0 : Nat) (x1 : Int32) (x2 : Int32), GG (p, l, e, { frames := 2 * 1, cells := 0, slots := 0, locals := 60 * 1 }, s, m, args, below, meth, c, cX12_four, 3, RX12, g, 1) (fun b => MQ below (kQ g ((fun r : kMem => (none, r)) b)) args s 0 0 (kZ g.2.2.1)) 0 0 (F_X12_four_3 N n M a0 x1 x2) 3 [(0, .ref a0), (1, .int x1), (2, .int x2)] [] M := by
  intro n
  induction n with
  | zero => intro _ _ _ _; exact g_none
  | succ n ih =>
    intro M a0 x1 x2
    unfold F_X12_four_3
    refine g_iload_n 4 2 hX dX12_four_3 rfl rfl ?_
    refine g_if_lt 49 7 hX dX12_four_4 (by decide) rfl (fun _ => ?_) (fun _ => ?_)
    · exact g_vret hX hr rfl (Nat.le_refl 0) (Nat.le_refl 0) dX12_four_49
    · refine g_iload_n 8 1 hX dX12_four_7 rfl rfl ?_
      refine g_iload_n 9 2 hX dX12_four_8 rfl rfl ?_
      refine g_ishr 10 hX dX12_four_9 rfl ?_
      refine g_sipush 13 hX 255 dX12_four_10 rfl kc_s_255 ?_
      refine g_iand 14 hX dX12_four_13 rfl ?_
      refine g_if_eq 43 17 hX dX12_four_14 (by decide) rfl (fun _ => ?_) (fun _ => ?_)
      · refine g_kl (fun v1 hv1 => ?_)
        refine g_iinc 46 2 2 v1 [(2, .int v1), (0, .ref a0), (1, .int x1)] hX dX12_four_43 rfl rfl (by rw [hv1, kc_i_m8]) (Nat.le_of_ble_eq_true rfl) rfl ?_
        refine g_goto 3 hX dX12_four_46 (by decide) ?_
        refine g_lv [1, 2, 0] rfl ?_
        exact ih M a0 x1 v1
      · refine g_aload_n 18 0 hX dX12_four_17 rfl rfl ?_
        refine r_X12_29 21 hX dX12_four_18 rfl ?_
        refine g_aload_n 22 0 hX dX12_four_21 rfl rfl ?_
        refine r_X12_155 25 hX dX12_four_22 rfl ?_
        refine g_iload_n 26 1 hX dX12_four_25 rfl rfl ?_
        refine g_iload_n 27 2 hX dX12_four_26 rfl rfl ?_
        refine g_ishr 28 hX dX12_four_27 rfl ?_
        refine g_sipush 31 hX 255 dX12_four_28 rfl kc_s_255 ?_
        refine g_iand 32 hX dX12_four_31 rfl ?_
        refine g_iast 33 hX dX12_four_32 rfl ?_
        refine g_klM (fun M2 hM2 => ?_)
        refine g_aload_n 34 0 hX dX12_four_33 rfl rfl ?_
        refine g_dup 35 hX dX12_four_34 rfl rfl ?_
        refine r_X12_155 38 hX dX12_four_35 rfl ?_
        refine g_iconst 39 hX 1 dX12_four_38 rfl kc_i_1 ?_
        refine g_iadd 40 hX dX12_four_39 rfl ?_
        refine p_X12_155 43 hX dX12_four_40 rfl ?_
        refine g_klM (fun M3 hM3 => ?_)
        refine g_kl (fun v4 hv4 => ?_)
        refine g_iinc 46 2 2 v4 [(2, .int v4), (0, .ref a0), (1, .int x1)] hX dX12_four_43 rfl rfl (by rw [hv4, kc_i_m8]) (Nat.le_of_ble_eq_true rfl) rfl ?_
        refine g_goto 3 hX dX12_four_46 (by decide) ?_
        refine g_lv [1, 2, 0] rfl ?_
        exact ih M3 a0 x1 v4
set_option maxRecDepth 100000 in
set_option maxHeartbeats 4000000 in
theorem k_X12_four (l : Launch) (g : kG) (N : Nat) (M : kMem) (a0 : Nat) (x1 : Int32) : kMet l g yX12_four cX12_four 3 none 1 0 0 [.ref a0, .int x1] M (fun r : kMem => (none, r)) (F_X12_four N M a0 x1) := by
  refine k_of (lv := [(0, .ref a0), (1, .int x1)]) RX12 (by decide) rfl rfl (Nat.le_of_ble_eq_true rfl) ?_
  intro p e s m args below meth c hX hr _
  unfold F_X12_four
  refine g_bipush 2 hX 24 dX12_four_0 rfl kc_b_24 ?_
  refine g_istore_n 3 2 [(2, .int 24), (0, .ref a0), (1, .int x1)] hX dX12_four_2 rfl rfl (Nat.le_of_ble_eq_true rfl) rfl ?_
  refine g_lv [1, 2, 0] rfl ?_
  exact k_X12_four_3 hX hr N N M a0 x1 24
set_option maxRecDepth 100000 in
set_option maxHeartbeats 4000000 in
theorem k_X12_append_53 {p : Program} {l : Launch} {e : Env} {s : State} {m : MethodId} {args : Array Value} {below : List Frame} {meth : Method} {c : Code} {g : kG} (hX : Cok (p, l, e, { frames := 2 * 2, cells := 0, slots := 0, locals := 60 * 2 }, s, m, args, below, meth, c, cX12_append, 6, RX12, g, 2)) (hr : meth.sig.returnType = (some .int)) (N : Nat) : ∀ (M : kMem) (a0 : Nat) (x1 : Int32) (x2 : Int32) (x3 : Int32) (x4 : Int32) (x5 : Int32) (y0 : Nat) (y1 : Int32), GG (p, l, e, { frames := 2 * 2, cells := 0, slots := 0, locals := 60 * 2 }, s, m, args, below, meth, c, cX12_append, 6, RX12, g, 2) (fun b => MQ below (kQ g ((fun r : Int32 × kMem => (some (.int r.1), r.2)) b)) args s 0 0 (kZ g.2.2.1)) 0 0 (F_X12_append_53 N M a0 x1 x2 x3 x4 x5 y0 y1) 53 [(0, .ref a0), (1, .int x1), (2, .int x2), (3, .int x3), (4, .int x4), (5, .int x5)] [.int y1, .ref y0] M := by
  intro M a0 x1 x2 x3 x4 x5 y0 y1
  unfold F_X12_append_53
  refine g_iconst 54 hX 1 dX12_append_53 rfl kc_i_1 ?_
  refine g_callV_i 57 hX (k_X12_stops l g N M y0 y1 1) lk_X12_stops rfl (ci := 12) rfl (Nat.le_of_ble_eq_true rfl) q_1742 q_42 (by omega) rfl (Nat.le_of_ble_eq_true rfl) (Nat.zero_le _) (Nat.zero_le _) dX12_append_54 rfl (fun r7 => ?_)
  refine g_if_eq 62 60 hX dX12_append_57 (by decide) rfl (fun _ => ?_) (fun _ => ?_)
  · refine g_aload_n 63 0 hX dX12_append_62 rfl rfl ?_
    refine g_iload_n 64 1 hX dX12_append_63 rfl rfl ?_
    refine g_callV_v 67 hX (k_X12_four l g N r7.2 a0 x1) lk_X12_four rfl (ci := 12) rfl (Nat.le_of_ble_eq_true rfl) q_1746 q_43 (by omega) rfl (Nat.le_of_ble_eq_true rfl) (Nat.zero_le _) (Nat.zero_le _) dX12_append_64 rfl (fun M8 => ?_)
    refine g_aload_n 68 0 hX dX12_append_67 rfl rfl ?_
    refine g_iload_n 69 2 hX dX12_append_68 rfl rfl ?_
    refine g_callV_v 72 hX (k_X12_four l g N M8 a0 x2) lk_X12_four rfl (ci := 12) rfl (Nat.le_of_ble_eq_true rfl) q_1746 q_43 (by omega) rfl (Nat.le_of_ble_eq_true rfl) (Nat.zero_le _) (Nat.zero_le _) dX12_append_69 rfl (fun M9 => ?_)
    refine g_aload_n 73 0 hX dX12_append_72 rfl rfl ?_
    refine g_iload_n 74 3 hX dX12_append_73 rfl rfl ?_
    refine g_callV_v 77 hX (k_X12_four l g N M9 a0 x3) lk_X12_four rfl (ci := 12) rfl (Nat.le_of_ble_eq_true rfl) q_1746 q_43 (by omega) rfl (Nat.le_of_ble_eq_true rfl) (Nat.zero_le _) (Nat.zero_le _) dX12_append_74 rfl (fun M10 => ?_)
    refine g_aload_n 78 0 hX dX12_append_77 rfl rfl ?_
    refine g_iload 80 4 hX dX12_append_78 rfl rfl ?_
    refine g_callV_v 83 hX (k_X12_four l g N M10 a0 x4) lk_X12_four rfl (ci := 12) rfl (Nat.le_of_ble_eq_true rfl) q_1746 q_43 (by omega) rfl (Nat.le_of_ble_eq_true rfl) (Nat.zero_le _) (Nat.zero_le _) dX12_append_80 rfl (fun M11 => ?_)
    refine g_aload_n 84 0 hX dX12_append_83 rfl rfl ?_
    refine g_iload 86 5 hX dX12_append_84 rfl rfl ?_
    refine g_callV_v 89 hX (k_X12_four l g N M11 a0 x5) lk_X12_four rfl (ci := 12) rfl (Nat.le_of_ble_eq_true rfl) q_1746 q_43 (by omega) rfl (Nat.le_of_ble_eq_true rfl) (Nat.zero_le _) (Nat.zero_le _) dX12_append_86 rfl (fun M12 => ?_)
    refine g_aload_n 90 0 hX dX12_append_89 rfl rfl ?_
    refine r_X12_155 93 hX dX12_append_90 rfl ?_
    exact g_iret hX hr rfl (Nat.le_refl 0) (Nat.le_refl 0) dX12_append_93
  · refine g_iconst 61 hX 0 dX12_append_60 rfl kc_i_0 ?_
    exact g_iret hX hr rfl (Nat.le_refl 0) (Nat.le_refl 0) dX12_append_61
set_option maxRecDepth 100000 in
set_option maxHeartbeats 4000000 in
theorem k_X12_append (l : Launch) (g : kG) (N : Nat) (M : kMem) (a0 : Nat) (x1 : Int32) (x2 : Int32) (x3 : Int32) (x4 : Int32) (x5 : Int32) : kMet l g yX12_append cX12_append 6 (some .int) 2 0 0 [.ref a0, .int x1, .int x2, .int x3, .int x4, .int x5] M (fun r : Int32 × kMem => (some (.int r.1), r.2)) (F_X12_append N M a0 x1 x2 x3 x4 x5) := by
  refine k_of (lv := [(0, .ref a0), (1, .int x1), (2, .int x2), (3, .int x3), (4, .int x4), (5, .int x5)]) RX12 (by decide) rfl rfl (Nat.le_of_ble_eq_true rfl) ?_
  intro p e s m args below meth c hX hr _
  unfold F_X12_append
  refine g_aload_n 1 0 hX dX12_append_0 rfl rfl ?_
  refine g_iconst 2 hX 0 dX12_append_1 rfl kc_i_0 ?_
  refine p_X12_63 5 hX dX12_append_2 rfl ?_
  refine g_klM (fun M1 hM1 => ?_)
  refine g_aload_n 6 0 hX dX12_append_5 rfl rfl ?_
  refine g_aload_n 7 0 hX dX12_append_6 rfl rfl ?_
  refine r_X12_155 10 hX dX12_append_7 rfl ?_
  refine g_aload_n 11 0 hX dX12_append_10 rfl rfl ?_
  refine g_iload_n 12 1 hX dX12_append_11 rfl rfl ?_
  refine g_callV_ip 15 hX (k_X12_bytesIn l g N M1 a0 x1) lk_X12_bytesIn rfl (ci := 12) rfl (Nat.le_of_ble_eq_true rfl) q_1738 q_41 (by omega) rfl (Nat.le_of_ble_eq_true rfl) (Nat.zero_le _) (Nat.zero_le _) dX12_append_12 rfl (fun r2 => ?_)
  refine g_iadd 16 hX dX12_append_15 rfl ?_
  refine g_aload_n 17 0 hX dX12_append_16 rfl rfl ?_
  refine g_iload_n 18 2 hX dX12_append_17 rfl rfl ?_
  refine g_callV_ip 21 hX (k_X12_bytesIn l g N M1 a0 x2) lk_X12_bytesIn rfl (ci := 12) rfl (Nat.le_of_ble_eq_true rfl) q_1738 q_41 (by omega) rfl (Nat.le_of_ble_eq_true rfl) (Nat.zero_le _) (Nat.zero_le _) dX12_append_18 rfl (fun r3 => ?_)
  refine g_iadd 22 hX dX12_append_21 rfl ?_
  refine g_aload_n 23 0 hX dX12_append_22 rfl rfl ?_
  refine g_iload_n 24 3 hX dX12_append_23 rfl rfl ?_
  refine g_callV_ip 27 hX (k_X12_bytesIn l g N M1 a0 x3) lk_X12_bytesIn rfl (ci := 12) rfl (Nat.le_of_ble_eq_true rfl) q_1738 q_41 (by omega) rfl (Nat.le_of_ble_eq_true rfl) (Nat.zero_le _) (Nat.zero_le _) dX12_append_24 rfl (fun r4 => ?_)
  refine g_iadd 28 hX dX12_append_27 rfl ?_
  refine g_aload_n 29 0 hX dX12_append_28 rfl rfl ?_
  refine g_iload 31 4 hX dX12_append_29 rfl rfl ?_
  refine g_callV_ip 34 hX (k_X12_bytesIn l g N M1 a0 x4) lk_X12_bytesIn rfl (ci := 12) rfl (Nat.le_of_ble_eq_true rfl) q_1738 q_41 (by omega) rfl (Nat.le_of_ble_eq_true rfl) (Nat.zero_le _) (Nat.zero_le _) dX12_append_31 rfl (fun r5 => ?_)
  refine g_iadd 35 hX dX12_append_34 rfl ?_
  refine g_aload_n 36 0 hX dX12_append_35 rfl rfl ?_
  refine g_iload 38 5 hX dX12_append_36 rfl rfl ?_
  refine g_callV_ip 41 hX (k_X12_bytesIn l g N M1 a0 x5) lk_X12_bytesIn rfl (ci := 12) rfl (Nat.le_of_ble_eq_true rfl) q_1738 q_41 (by omega) rfl (Nat.le_of_ble_eq_true rfl) (Nat.zero_le _) (Nat.zero_le _) dX12_append_38 rfl (fun r6 => ?_)
  refine g_iadd 42 hX dX12_append_41 rfl ?_
  refine g_sipush 45 hX 800 dX12_append_42 rfl kc_s_800 ?_
  refine g_icmp_le 52 48 hX dX12_append_45 (by decide) rfl (fun _ => ?_) (fun _ => ?_)
  · refine g_iconst 53 hX 0 dX12_append_52 rfl kc_i_0 ?_
    exact k_X12_append_53 hX hr N M1 a0 x1 x2 x3 x4 x5 a0 0
  · refine g_iconst 49 hX 1 dX12_append_48 rfl kc_i_1 ?_
    refine g_goto 53 hX dX12_append_49 (by decide) ?_
    exact k_X12_append_53 hX hr N M1 a0 x1 x2 x3 x4 x5 a0 1
set_option maxRecDepth 100000 in
set_option maxHeartbeats 4000000 in
theorem k_X12_truncate_25 {p : Program} {l : Launch} {e : Env} {s : State} {m : MethodId} {args : Array Value} {below : List Frame} {meth : Method} {c : Code} {g : kG} (hX : Cok (p, l, e, { frames := 2 * 2, cells := 0, slots := 0, locals := 60 * 2 }, s, m, args, below, meth, c, cX12_truncate, 2, RX12, g, 2)) (hr : meth.sig.returnType = (some .int)) (N : Nat) : ∀ (M : kMem) (a0 : Nat) (x1 : Int32) (y0 : Nat) (y1 : Int32), GG (p, l, e, { frames := 2 * 2, cells := 0, slots := 0, locals := 60 * 2 }, s, m, args, below, meth, c, cX12_truncate, 2, RX12, g, 2) (fun b => MQ below (kQ g ((fun r : Int32 × kMem => (some (.int r.1), r.2)) b)) args s 0 0 (kZ g.2.2.1)) 0 0 (F_X12_truncate_25 N M a0 x1 y0 y1) 25 [(0, .ref a0), (1, .int x1)] [.int y1, .ref y0] M := by
  intro M a0 x1 y0 y1
  unfold F_X12_truncate_25
  refine g_iconst 26 hX 1 dX12_truncate_25 rfl kc_i_1 ?_
  refine g_callV_i 29 hX (k_X12_stops l g N M y0 y1 1) lk_X12_stops rfl (ci := 12) rfl (Nat.le_of_ble_eq_true rfl) q_1742 q_42 (by omega) rfl (Nat.le_of_ble_eq_true rfl) (Nat.zero_le _) (Nat.zero_le _) dX12_truncate_26 rfl (fun r3 => ?_)
  refine g_if_eq 34 32 hX dX12_truncate_29 (by decide) rfl (fun _ => ?_) (fun _ => ?_)
  · refine g_aload_n 35 0 hX dX12_truncate_34 rfl rfl ?_
    refine g_iload_n 36 1 hX dX12_truncate_35 rfl rfl ?_
    refine p_X12_155 39 hX dX12_truncate_36 rfl ?_
    refine g_klM (fun M4 hM4 => ?_)
    refine g_iload_n 40 1 hX dX12_truncate_39 rfl rfl ?_
    exact g_iret hX hr rfl (Nat.le_refl 0) (Nat.le_refl 0) dX12_truncate_40
  · refine g_iconst 33 hX 0 dX12_truncate_32 rfl kc_i_0 ?_
    exact g_iret hX hr rfl (Nat.le_refl 0) (Nat.le_refl 0) dX12_truncate_33
set_option maxRecDepth 100000 in
set_option maxHeartbeats 4000000 in
theorem k_X12_truncate (l : Launch) (g : kG) (N : Nat) (M : kMem) (a0 : Nat) (x1 : Int32) : kMet l g yX12_truncate cX12_truncate 2 (some .int) 2 0 0 [.ref a0, .int x1] M (fun r : Int32 × kMem => (some (.int r.1), r.2)) (F_X12_truncate N M a0 x1) := by
  refine k_of (lv := [(0, .ref a0), (1, .int x1)]) RX12 (by decide) rfl rfl (Nat.le_of_ble_eq_true rfl) ?_
  intro p e s m args below meth c hX hr _
  unfold F_X12_truncate
  refine g_aload_n 1 0 hX dX12_truncate_0 rfl rfl ?_
  refine g_iconst 2 hX 0 dX12_truncate_1 rfl kc_i_0 ?_
  refine p_X12_63 5 hX dX12_truncate_2 rfl ?_
  refine g_klM (fun M1 hM1 => ?_)
  refine g_aload_n 6 0 hX dX12_truncate_5 rfl rfl ?_
  refine g_iload_n 7 1 hX dX12_truncate_6 rfl rfl ?_
  refine g_i2l 8 hX dX12_truncate_7 rfl ?_
  refine g_lconst 9 hX 0 dX12_truncate_8 rfl rfl ?_
  refine g_aload_n 10 0 hX dX12_truncate_9 rfl rfl ?_
  refine r_X12_155 13 hX dX12_truncate_10 rfl ?_
  refine g_i2l 14 hX dX12_truncate_13 rfl ?_
  refine g_callS_ip 17 hX (k_X12_in l g N M1 x1.toInt64 0 ((kI M1 a0 10).toInt64)) lk_X12_in q_1754 (by omega) rfl (Nat.le_of_ble_eq_true rfl) (Nat.zero_le _) (Nat.zero_le _) dX12_truncate_14 rfl (fun r2 => ?_)
  refine g_if_ne 24 20 hX dX12_truncate_17 (by decide) rfl (fun _ => ?_) (fun _ => ?_)
  · refine g_iconst 25 hX 0 dX12_truncate_24 rfl kc_i_0 ?_
    exact k_X12_truncate_25 hX hr N M1 a0 x1 a0 0
  · refine g_iconst 21 hX 1 dX12_truncate_20 rfl kc_i_1 ?_
    refine g_goto 25 hX dX12_truncate_21 (by decide) ?_
    exact k_X12_truncate_25 hX hr N M1 a0 x1 a0 1
set_option maxRecDepth 100000 in
set_option maxHeartbeats 4000000 in
theorem k_X12_see (l : Launch) (g : kG) (N : Nat) (M : kMem) (a0 : Nat) (x1 : Int32) : kMet l g yX12_see cX12_see 2 (some .int) 1 0 0 [.ref a0, .int x1] M (fun r : Int32 => (some (.int r), M)) (F_X12_see N M a0 x1) := by
  refine k_of (lv := [(0, .ref a0), (1, .int x1)]) RX12 (by decide) rfl rfl (Nat.le_of_ble_eq_true rfl) ?_
  intro p e s m args below meth c hX hr _
  unfold F_X12_see
  refine g_iload_n 1 1 hX dX12_see_0 rfl rfl ?_
  refine g_aload_n 2 0 hX dX12_see_1 rfl rfl ?_
  refine r_X12_168 5 hX dX12_see_2 rfl ?_
  refine g_icmp_ge 17 8 hX dX12_see_5 (by decide) rfl (fun _ => ?_) (fun _ => ?_)
  · refine g_iconst 18 hX (-1) dX12_see_17 rfl kc_i_m1 ?_
    exact g_iret hX hr rfl (Nat.le_refl 0) (Nat.le_refl 0) dX12_see_18
  · refine g_aload_n 9 0 hX dX12_see_8 rfl rfl ?_
    refine r_X12_32 12 hX dX12_see_9 rfl ?_
    refine g_iload_n 13 1 hX dX12_see_12 rfl rfl ?_
    refine g_iald 14 hX dX12_see_13 rfl ?_
    refine g_goto 18 hX dX12_see_14 (by decide) ?_
    exact g_iret hX hr rfl (Nat.le_refl 0) (Nat.le_refl 0) dX12_see_18
set_option maxRecDepth 100000 in
set_option maxHeartbeats 4000000 in
theorem k_X12_isSmall (l : Launch) (g : kG) (N : Nat) (M : kMem) (x0 : Int32) : kMet l g yX12_isSmall cX12_isSmall 1 (some .boolean) 2 0 0 [.int x0] M (fun r : Int32 => (some (.int r), M)) (F_X12_isSmall N M x0) := by
  refine k_of (lv := [(0, .int x0)]) RX12 (by decide) rfl rfl (Nat.le_of_ble_eq_true rfl) ?_
  intro p e s m args below meth c hX hr _
  unfold F_X12_isSmall
  refine g_iload_n 1 0 hX dX12_isSmall_0 rfl rfl ?_
  refine g_i2l 2 hX dX12_isSmall_1 rfl ?_
  refine g_ldc2 5 hX 97 dX12_isSmall_2 rfl q_1783 ?_
  refine g_ldc2 8 hX 122 dX12_isSmall_5 rfl q_1784 ?_
  refine g_callS_ip 11 hX (k_X12_in l g N M x0.toInt64 97 122) lk_X12_in q_1754 (by omega) rfl (Nat.le_of_ble_eq_true rfl) (Nat.zero_le _) (Nat.zero_le _) dX12_isSmall_8 rfl (fun r1 => ?_)
  exact g_zret hX hr rfl (Nat.le_refl 0) (Nat.le_refl 0) dX12_isSmall_11
set_option maxRecDepth 100000 in
set_option maxHeartbeats 4000000 in
theorem k_X12_isDigit (l : Launch) (g : kG) (N : Nat) (M : kMem) (x0 : Int32) : kMet l g yX12_isDigit cX12_isDigit 1 (some .boolean) 2 0 0 [.int x0] M (fun r : Int32 => (some (.int r), M)) (F_X12_isDigit N M x0) := by
  refine k_of (lv := [(0, .int x0)]) RX12 (by decide) rfl rfl (Nat.le_of_ble_eq_true rfl) ?_
  intro p e s m args below meth c hX hr _
  unfold F_X12_isDigit
  refine g_iload_n 1 0 hX dX12_isDigit_0 rfl rfl ?_
  refine g_i2l 2 hX dX12_isDigit_1 rfl ?_
  refine g_ldc2 5 hX 48 dX12_isDigit_2 rfl q_1790 ?_
  refine g_ldc2 8 hX 57 dX12_isDigit_5 rfl q_1791 ?_
  refine g_callS_ip 11 hX (k_X12_in l g N M x0.toInt64 48 57) lk_X12_in q_1754 (by omega) rfl (Nat.le_of_ble_eq_true rfl) (Nat.zero_le _) (Nat.zero_le _) dX12_isDigit_8 rfl (fun r1 => ?_)
  exact g_zret hX hr rfl (Nat.le_refl 0) (Nat.le_refl 0) dX12_isDigit_11
set_option maxRecDepth 100000 in
set_option maxHeartbeats 4000000 in
theorem k_X12_scan_268 {p : Program} {l : Launch} {e : Env} {s : State} {m : MethodId} {args : Array Value} {below : List Frame} {meth : Method} {c : Code} {g : kG} (hX : Cok (p, l, e, { frames := 2 * 3, cells := 0, slots := 0, locals := 60 * 3 }, s, m, args, below, meth, c, cX12_scan, 2, RX12, g, 3)) (hr : meth.sig.returnType = none) (N : Nat) : ∀ (M : kMem) (a0 : Nat) (y0 : Nat), GG (p, l, e, { frames := 2 * 3, cells := 0, slots := 0, locals := 60 * 3 }, s, m, args, below, meth, c, cX12_scan, 2, RX12, g, 3) (fun b => MQ below (kQ g ((fun r : kMem => (none, r)) b)) args s 0 0 (kZ g.2.2.1)) 0 0 (F_X12_scan_268 N M a0 y0) 268 [(0, .ref a0)] [.ref y0] M := by
  intro M a0 y0
  unfold F_X12_scan_268
  refine g_iconst 269 hX 3 dX12_scan_268 rfl kc_i_3 ?_
  refine g_goto 273 hX dX12_scan_269 (by decide) ?_
  refine p_X12_188 276 hX dX12_scan_273 rfl ?_
  refine g_klM (fun M8 hM8 => ?_)
  refine g_aload_n 277 0 hX dX12_scan_276 rfl rfl ?_
  refine g_dup 278 hX dX12_scan_277 rfl rfl ?_
  refine r_X12_179 281 hX dX12_scan_278 rfl ?_
  refine g_iconst 282 hX 1 dX12_scan_281 rfl kc_i_1 ?_
  refine g_iadd 283 hX dX12_scan_282 rfl ?_
  refine p_X12_179 286 hX dX12_scan_283 rfl ?_
  refine g_klM (fun M9 hM9 => ?_)
  exact g_vret hX hr rfl (Nat.le_refl 0) (Nat.le_refl 0) dX12_scan_286
set_option maxRecDepth 100000 in
set_option maxHeartbeats 4000000 in
theorem k_X12_scan_175 {p : Program} {l : Launch} {e : Env} {s : State} {m : MethodId} {args : Array Value} {below : List Frame} {meth : Method} {c : Code} {g : kG} (hX : Cok (p, l, e, { frames := 2 * 3, cells := 0, slots := 0, locals := 60 * 3 }, s, m, args, below, meth, c, cX12_scan, 2, RX12, g, 3)) (hr : meth.sig.returnType = none) (N : Nat) : ∀ (n : Nat) (M : kMem) (a0 : Nat), GG (p, l, e, { frames := 2 * 3, cells := 0, slots := 0, locals := 60 * 3 }, s, m, args, below, meth, c, cX12_scan, 2, RX12, g, 3) (fun b => MQ below (kQ g ((fun r : kMem => (none, r)) b)) args s 0 0 (kZ g.2.2.1)) 0 0 (F_X12_scan_175 N n M a0) 175 [(0, .ref a0)] [] M := by
  intro n
  induction n with
  | zero => intro _ _; exact g_none
  | succ n ih =>
    intro M a0
    unfold F_X12_scan_175
    refine g_aload_n 176 0 hX dX12_scan_175 rfl rfl ?_
    refine g_aload_n 177 0 hX dX12_scan_176 rfl rfl ?_
    refine r_X12_179 180 hX dX12_scan_177 rfl ?_
    refine g_callV_ip 183 hX (k_X12_see l g N M a0 (kI M a0 12)) lk_X12_see rfl (ci := 12) rfl (Nat.le_of_ble_eq_true rfl) q_1776 q_47 (by omega) rfl (Nat.le_of_ble_eq_true rfl) (Nat.zero_le _) (Nat.zero_le _) dX12_scan_180 rfl (fun r13 => ?_)
    refine g_callS_ip 186 hX (k_X12_isDigit l g N M r13) lk_X12_isDigit q_1787 (by omega) rfl (Nat.le_of_ble_eq_true rfl) (Nat.zero_le _) (Nat.zero_le _) dX12_scan_183 rfl (fun r14 => ?_)
    refine g_if_eq 241 189 hX dX12_scan_186 (by decide) rfl (fun _ => ?_) (fun _ => ?_)
    · refine g_aload_n 242 0 hX dX12_scan_241 rfl rfl ?_
      refine g_iconst 243 hX 2 dX12_scan_242 rfl kc_i_2 ?_
      refine p_X12_188 246 hX dX12_scan_243 rfl ?_
      refine g_klM (fun M15 hM15 => ?_)
      refine g_goto 286 hX dX12_scan_246 (by decide) ?_
      exact g_vret hX hr rfl (Nat.le_refl 0) (Nat.le_refl 0) dX12_scan_286
    · refine g_aload_n 190 0 hX dX12_scan_189 rfl rfl ?_
      refine g_aload_n 191 0 hX dX12_scan_190 rfl rfl ?_
      refine r_X12_205 194 hX dX12_scan_191 rfl ?_
      refine g_ldc 196 hX 999999 dX12_scan_194 rfl q_1792 ?_
      refine g_icmp_le 206 199 hX dX12_scan_196 (by decide) rfl (fun _ => ?_) (fun _ => ?_)
      · refine g_bipush 208 hX 10 dX12_scan_206 rfl kc_b_10 ?_
        refine g_aload_n 209 0 hX dX12_scan_208 rfl rfl ?_
        refine r_X12_205 212 hX dX12_scan_209 rfl ?_
        refine g_imul 213 hX dX12_scan_212 rfl ?_
        refine g_aload_n 214 0 hX dX12_scan_213 rfl rfl ?_
        refine g_aload_n 215 0 hX dX12_scan_214 rfl rfl ?_
        refine r_X12_179 218 hX dX12_scan_215 rfl ?_
        refine g_callV_ip 221 hX (k_X12_see l g N M a0 (kI M a0 12)) lk_X12_see rfl (ci := 12) rfl (Nat.le_of_ble_eq_true rfl) q_1776 q_47 (by omega) rfl (Nat.le_of_ble_eq_true rfl) (Nat.zero_le _) (Nat.zero_le _) dX12_scan_218 rfl (fun r16 => ?_)
        refine g_iadd 222 hX dX12_scan_221 rfl ?_
        refine g_bipush 224 hX 48 dX12_scan_222 rfl kc_b_48 ?_
        refine g_isub 225 hX dX12_scan_224 rfl ?_
        refine p_X12_205 228 hX dX12_scan_225 rfl ?_
        refine g_klM (fun M17 hM17 => ?_)
        refine g_aload_n 229 0 hX dX12_scan_228 rfl rfl ?_
        refine g_dup 230 hX dX12_scan_229 rfl rfl ?_
        refine r_X12_179 233 hX dX12_scan_230 rfl ?_
        refine g_iconst 234 hX 1 dX12_scan_233 rfl kc_i_1 ?_
        refine g_iadd 235 hX dX12_scan_234 rfl ?_
        refine p_X12_179 238 hX dX12_scan_235 rfl ?_
        refine g_klM (fun M18 hM18 => ?_)
        refine g_goto 175 hX dX12_scan_238 (by decide) ?_
        exact ih M18 a0
      · refine g_aload_n 200 0 hX dX12_scan_199 rfl rfl ?_
        refine r_X12_205 203 hX dX12_scan_200 rfl ?_
        refine g_goto 225 hX dX12_scan_203 (by decide) ?_
        refine p_X12_205 228 hX dX12_scan_225 rfl ?_
        refine g_klM (fun M19 hM19 => ?_)
        refine g_aload_n 229 0 hX dX12_scan_228 rfl rfl ?_
        refine g_dup 230 hX dX12_scan_229 rfl rfl ?_
        refine r_X12_179 233 hX dX12_scan_230 rfl ?_
        refine g_iconst 234 hX 1 dX12_scan_233 rfl kc_i_1 ?_
        refine g_iadd 235 hX dX12_scan_234 rfl ?_
        refine p_X12_179 238 hX dX12_scan_235 rfl ?_
        refine g_klM (fun M20 hM20 => ?_)
        refine g_goto 175 hX dX12_scan_238 (by decide) ?_
        exact ih M20 a0
set_option maxRecDepth 100000 in
set_option maxHeartbeats 4000000 in
theorem k_X12_scan_81 {p : Program} {l : Launch} {e : Env} {s : State} {m : MethodId} {args : Array Value} {below : List Frame} {meth : Method} {c : Code} {g : kG} (hX : Cok (p, l, e, { frames := 2 * 3, cells := 0, slots := 0, locals := 60 * 3 }, s, m, args, below, meth, c, cX12_scan, 2, RX12, g, 3)) (hr : meth.sig.returnType = none) (N : Nat) : ∀ (n : Nat) (M : kMem) (a0 : Nat), GG (p, l, e, { frames := 2 * 3, cells := 0, slots := 0, locals := 60 * 3 }, s, m, args, below, meth, c, cX12_scan, 2, RX12, g, 3) (fun b => MQ below (kQ g ((fun r : kMem => (none, r)) b)) args s 0 0 (kZ g.2.2.1)) 0 0 (F_X12_scan_81 N n M a0) 81 [(0, .ref a0)] [] M := by
  intro n
  induction n with
  | zero => intro _ _; exact g_none
  | succ n ih =>
    intro M a0
    unfold F_X12_scan_81
    refine g_aload_n 82 0 hX dX12_scan_81 rfl rfl ?_
    refine g_aload_n 83 0 hX dX12_scan_82 rfl rfl ?_
    refine r_X12_179 86 hX dX12_scan_83 rfl ?_
    refine g_callV_ip 89 hX (k_X12_see l g N M a0 (kI M a0 12)) lk_X12_see rfl (ci := 12) rfl (Nat.le_of_ble_eq_true rfl) q_1776 q_47 (by omega) rfl (Nat.le_of_ble_eq_true rfl) (Nat.zero_le _) (Nat.zero_le _) dX12_scan_86 rfl (fun r22 => ?_)
    refine g_callS_ip 92 hX (k_X12_isSmall l g N M r22) lk_X12_isSmall q_1780 (by omega) rfl (Nat.le_of_ble_eq_true rfl) (Nat.zero_le _) (Nat.zero_le _) dX12_scan_89 rfl (fun r23 => ?_)
    refine g_if_eq 155 95 hX dX12_scan_92 (by decide) rfl (fun _ => ?_) (fun _ => ?_)
    · refine g_aload_n 156 0 hX dX12_scan_155 rfl rfl ?_
      refine g_iconst 157 hX 1 dX12_scan_156 rfl kc_i_1 ?_
      refine p_X12_188 160 hX dX12_scan_157 rfl ?_
      refine g_klM (fun M24 hM24 => ?_)
      refine g_goto 286 hX dX12_scan_160 (by decide) ?_
      exact g_vret hX hr rfl (Nat.le_refl 0) (Nat.le_refl 0) dX12_scan_286
    · refine g_aload_n 96 0 hX dX12_scan_95 rfl rfl ?_
      refine g_aload_n 97 0 hX dX12_scan_96 rfl rfl ?_
      refine r_X12_179 100 hX dX12_scan_97 rfl ?_
      refine g_aload_n 101 0 hX dX12_scan_100 rfl rfl ?_
      refine r_X12_185 104 hX dX12_scan_101 rfl ?_
      refine g_isub 105 hX dX12_scan_104 rfl ?_
      refine g_bipush 107 hX 12 dX12_scan_105 rfl kc_b_12 ?_
      refine g_icmp_ge 135 110 hX dX12_scan_107 (by decide) rfl (fun _ => ?_) (fun _ => ?_)
      · refine g_aload_n 136 0 hX dX12_scan_135 rfl rfl ?_
        refine r_X12_194 139 hX dX12_scan_136 rfl ?_
        refine p_X12_194 142 hX dX12_scan_139 rfl ?_
        refine g_klM (fun M25 hM25 => ?_)
        refine g_aload_n 143 0 hX dX12_scan_142 rfl rfl ?_
        refine g_dup 144 hX dX12_scan_143 rfl rfl ?_
        refine r_X12_179 147 hX dX12_scan_144 rfl ?_
        refine g_iconst 148 hX 1 dX12_scan_147 rfl kc_i_1 ?_
        refine g_iadd 149 hX dX12_scan_148 rfl ?_
        refine p_X12_179 152 hX dX12_scan_149 rfl ?_
        refine g_klM (fun M26 hM26 => ?_)
        refine g_goto 81 hX dX12_scan_152 (by decide) ?_
        exact ih M26 a0
      · refine g_ldc2 113 hX 32 dX12_scan_110 rfl q_1785 ?_
        refine g_aload_n 114 0 hX dX12_scan_113 rfl rfl ?_
        refine r_X12_194 117 hX dX12_scan_114 rfl ?_
        refine g_lmul 118 hX dX12_scan_117 rfl ?_
        refine g_aload_n 119 0 hX dX12_scan_118 rfl rfl ?_
        refine g_aload_n 120 0 hX dX12_scan_119 rfl rfl ?_
        refine r_X12_179 123 hX dX12_scan_120 rfl ?_
        refine g_callV_ip 126 hX (k_X12_see l g N M a0 (kI M a0 12)) lk_X12_see rfl (ci := 12) rfl (Nat.le_of_ble_eq_true rfl) q_1776 q_47 (by omega) rfl (Nat.le_of_ble_eq_true rfl) (Nat.zero_le _) (Nat.zero_le _) dX12_scan_123 rfl (fun r27 => ?_)
        refine g_i2l 127 hX dX12_scan_126 rfl ?_
        refine g_ladd 128 hX dX12_scan_127 rfl ?_
        refine g_ldc2 131 hX 96 dX12_scan_128 rfl q_1786 ?_
        refine g_lsub 132 hX dX12_scan_131 rfl ?_
        refine g_goto 139 hX dX12_scan_132 (by decide) ?_
        refine p_X12_194 142 hX dX12_scan_139 rfl ?_
        refine g_klM (fun M28 hM28 => ?_)
        refine g_aload_n 143 0 hX dX12_scan_142 rfl rfl ?_
        refine g_dup 144 hX dX12_scan_143 rfl rfl ?_
        refine r_X12_179 147 hX dX12_scan_144 rfl ?_
        refine g_iconst 148 hX 1 dX12_scan_147 rfl kc_i_1 ?_
        refine g_iadd 149 hX dX12_scan_148 rfl ?_
        refine p_X12_179 152 hX dX12_scan_149 rfl ?_
        refine g_klM (fun M29 hM29 => ?_)
        refine g_goto 81 hX dX12_scan_152 (by decide) ?_
        exact ih M29 a0
set_option maxRecDepth 100000 in
set_option maxHeartbeats 4000000 in
theorem k_X12_scan_0 {p : Program} {l : Launch} {e : Env} {s : State} {m : MethodId} {args : Array Value} {below : List Frame} {meth : Method} {c : Code} {g : kG} (hX : Cok (p, l, e, { frames := 2 * 3, cells := 0, slots := 0, locals := 60 * 3 }, s, m, args, below, meth, c, cX12_scan, 2, RX12, g, 3)) (hr : meth.sig.returnType = none) (N : Nat) : ∀ (n : Nat) (M : kMem) (a0 : Nat), GG (p, l, e, { frames := 2 * 3, cells := 0, slots := 0, locals := 60 * 3 }, s, m, args, below, meth, c, cX12_scan, 2, RX12, g, 3) (fun b => MQ below (kQ g ((fun r : kMem => (none, r)) b)) args s 0 0 (kZ g.2.2.1)) 0 0 (F_X12_scan_0 N n M a0) 0 [(0, .ref a0)] [] M := by
  intro n
  induction n with
  | zero => intro _ _; exact g_none
  | succ n ih =>
    intro M a0
    unfold F_X12_scan_0
    refine g_aload_n 1 0 hX dX12_scan_0 rfl rfl ?_
    refine g_aload_n 2 0 hX dX12_scan_1 rfl rfl ?_
    refine r_X12_179 5 hX dX12_scan_2 rfl ?_
    refine g_callV_ip 8 hX (k_X12_see l g N M a0 (kI M a0 12)) lk_X12_see rfl (ci := 12) rfl (Nat.le_of_ble_eq_true rfl) q_1776 q_47 (by omega) rfl (Nat.le_of_ble_eq_true rfl) (Nat.zero_le _) (Nat.zero_le _) dX12_scan_5 rfl (fun r1 => ?_)
    refine g_bipush 10 hX 32 dX12_scan_8 rfl kc_b_32 ?_
    refine g_icmp_eq 26 13 hX dX12_scan_10 (by decide) rfl (fun _ => ?_) (fun _ => ?_)
    · refine g_aload_n 27 0 hX dX12_scan_26 rfl rfl ?_
      refine g_dup 28 hX dX12_scan_27 rfl rfl ?_
      refine r_X12_179 31 hX dX12_scan_28 rfl ?_
      refine g_iconst 32 hX 1 dX12_scan_31 rfl kc_i_1 ?_
      refine g_iadd 33 hX dX12_scan_32 rfl ?_
      refine p_X12_179 36 hX dX12_scan_33 rfl ?_
      refine g_klM (fun M2 hM2 => ?_)
      refine g_goto 0 hX dX12_scan_36 (by decide) ?_
      exact ih M2 a0
    · refine g_aload_n 14 0 hX dX12_scan_13 rfl rfl ?_
      refine g_aload_n 15 0 hX dX12_scan_14 rfl rfl ?_
      refine r_X12_179 18 hX dX12_scan_15 rfl ?_
      refine g_callV_ip 21 hX (k_X12_see l g N M a0 (kI M a0 12)) lk_X12_see rfl (ci := 12) rfl (Nat.le_of_ble_eq_true rfl) q_1776 q_47 (by omega) rfl (Nat.le_of_ble_eq_true rfl) (Nat.zero_le _) (Nat.zero_le _) dX12_scan_18 rfl (fun r3 => ?_)
      refine g_bipush 23 hX 10 dX12_scan_21 rfl kc_b_10 ?_
      refine g_icmp_ne 39 26 hX dX12_scan_23 (by decide) rfl (fun _ => ?_) (fun _ => ?_)
      · refine g_aload_n 40 0 hX dX12_scan_39 rfl rfl ?_
        refine g_aload_n 41 0 hX dX12_scan_40 rfl rfl ?_
        refine r_X12_179 44 hX dX12_scan_41 rfl ?_
        refine p_X12_185 47 hX dX12_scan_44 rfl ?_
        refine g_klM (fun M4 hM4 => ?_)
        refine g_aload_n 48 0 hX dX12_scan_47 rfl rfl ?_
        refine g_aload_n 49 0 hX dX12_scan_48 rfl rfl ?_
        refine r_X12_179 52 hX dX12_scan_49 rfl ?_
        refine g_callV_ip 55 hX (k_X12_see l g N M4 a0 (kI M4 a0 12)) lk_X12_see rfl (ci := 12) rfl (Nat.le_of_ble_eq_true rfl) q_1776 q_47 (by omega) rfl (Nat.le_of_ble_eq_true rfl) (Nat.zero_le _) (Nat.zero_le _) dX12_scan_52 rfl (fun r5 => ?_)
        refine g_istore_n 56 1 [(1, .int r5), (0, .ref a0)] hX dX12_scan_55 rfl rfl (Nat.le_of_ble_eq_true rfl) rfl ?_
        refine g_iload_n 57 0 hX dX12_scan_56 rfl rfl ?_
        refine g_iconst 58 hX (-1) dX12_scan_57 rfl kc_i_m1 ?_
        refine g_icmp_ne 69 61 hX dX12_scan_58 (by decide) rfl (fun _ => ?_) (fun _ => ?_)
        · refine g_iload_n 70 0 hX dX12_scan_69 rfl rfl ?_
          refine g_callS_ip 73 hX (k_X12_isSmall l g N M4 r5) lk_X12_isSmall q_1780 (by omega) rfl (Nat.le_of_ble_eq_true rfl) (Nat.zero_le _) (Nat.zero_le _) dX12_scan_70 rfl (fun r6 => ?_)
          refine g_if_eq 163 76 hX dX12_scan_73 (by decide) rfl (fun _ => ?_) (fun _ => ?_)
          · refine g_iload_n 164 0 hX dX12_scan_163 rfl rfl ?_
            refine g_callS_ip 167 hX (k_X12_isDigit l g N M4 r5) lk_X12_isDigit q_1787 (by omega) rfl (Nat.le_of_ble_eq_true rfl) (Nat.zero_le _) (Nat.zero_le _) dX12_scan_164 rfl (fun r7 => ?_)
            refine g_if_eq 249 170 hX dX12_scan_167 (by decide) rfl (fun _ => ?_) (fun _ => ?_)
            · refine g_aload_n 250 1 hX dX12_scan_249 rfl rfl ?_
              refine g_iload_n 251 0 hX dX12_scan_250 rfl rfl ?_
              refine g_bipush 253 hX 59 dX12_scan_251 rfl kc_b_59 ?_
              refine g_icmp_eq 268 256 hX dX12_scan_253 (by decide) rfl (fun _ => ?_) (fun _ => ?_)
              · refine g_lv [1] rfl ?_
                exact k_X12_scan_268 hX hr N M4 a0 a0
              · refine g_iload_n 257 0 hX dX12_scan_256 rfl rfl ?_
                refine g_bipush 259 hX 40 dX12_scan_257 rfl kc_b_40 ?_
                refine g_icmp_eq 268 262 hX dX12_scan_259 (by decide) rfl (fun _ => ?_) (fun _ => ?_)
                · refine g_lv [1] rfl ?_
                  exact k_X12_scan_268 hX hr N M4 a0 a0
                · refine g_iload_n 263 0 hX dX12_scan_262 rfl rfl ?_
                  refine g_bipush 265 hX 41 dX12_scan_263 rfl kc_b_41 ?_
                  refine g_icmp_ne 272 268 hX dX12_scan_265 (by decide) rfl (fun _ => ?_) (fun _ => ?_)
                  · refine g_iconst 273 hX 4 dX12_scan_272 rfl kc_i_4 ?_
                    refine p_X12_188 276 hX dX12_scan_273 rfl ?_
                    refine g_klM (fun M10 hM10 => ?_)
                    refine g_aload_n 277 1 hX dX12_scan_276 rfl rfl ?_
                    refine g_dup 278 hX dX12_scan_277 rfl rfl ?_
                    refine r_X12_179 281 hX dX12_scan_278 rfl ?_
                    refine g_iconst 282 hX 1 dX12_scan_281 rfl kc_i_1 ?_
                    refine g_iadd 283 hX dX12_scan_282 rfl ?_
                    refine p_X12_179 286 hX dX12_scan_283 rfl ?_
                    refine g_klM (fun M11 hM11 => ?_)
                    exact g_vret hX hr rfl (Nat.le_refl 0) (Nat.le_refl 0) dX12_scan_286
                  · refine g_lv [1] rfl ?_
                    exact k_X12_scan_268 hX hr N M4 a0 a0
            · refine g_aload_n 171 1 hX dX12_scan_170 rfl rfl ?_
              refine g_iconst 172 hX 0 dX12_scan_171 rfl kc_i_0 ?_
              refine p_X12_205 175 hX dX12_scan_172 rfl ?_
              refine g_klM (fun M12 hM12 => ?_)
              refine g_lv [1] rfl ?_
              exact k_X12_scan_175 hX hr N N M12 a0
          · refine g_aload_n 77 1 hX dX12_scan_76 rfl rfl ?_
            refine g_lconst 78 hX 0 dX12_scan_77 rfl rfl ?_
            refine p_X12_194 81 hX dX12_scan_78 rfl ?_
            refine g_klM (fun M21 hM21 => ?_)
            refine g_lv [1] rfl ?_
            exact k_X12_scan_81 hX hr N N M21 a0
        · refine g_aload_n 62 1 hX dX12_scan_61 rfl rfl ?_
          refine g_iconst 63 hX 0 dX12_scan_62 rfl kc_i_0 ?_
          refine p_X12_188 66 hX dX12_scan_63 rfl ?_
          refine g_klM (fun M30 hM30 => ?_)
          refine g_goto 286 hX dX12_scan_66 (by decide) ?_
          exact g_vret hX hr rfl (Nat.le_refl 0) (Nat.le_refl 0) dX12_scan_286
      · refine g_aload_n 27 0 hX dX12_scan_26 rfl rfl ?_
        refine g_dup 28 hX dX12_scan_27 rfl rfl ?_
        refine r_X12_179 31 hX dX12_scan_28 rfl ?_
        refine g_iconst 32 hX 1 dX12_scan_31 rfl kc_i_1 ?_
        refine g_iadd 33 hX dX12_scan_32 rfl ?_
        refine p_X12_179 36 hX dX12_scan_33 rfl ?_
        refine g_klM (fun M31 hM31 => ?_)
        refine g_goto 0 hX dX12_scan_36 (by decide) ?_
        exact ih M31 a0
set_option maxRecDepth 100000 in
set_option maxHeartbeats 4000000 in
theorem k_X12_scan (l : Launch) (g : kG) (N : Nat) (M : kMem) (a0 : Nat) : kMet l g yX12_scan cX12_scan 2 none 3 0 0 [.ref a0] M (fun r : kMem => (none, r)) (F_X12_scan N M a0) := by
  refine k_of (lv := [(0, .ref a0)]) RX12 (by decide) rfl rfl (Nat.le_of_ble_eq_true rfl) ?_
  intro p e s m args below meth c hX hr _
  unfold F_X12_scan
  exact k_X12_scan_0 hX hr N N M a0
set_option maxRecDepth 100000 in
set_option maxHeartbeats 4000000 in
theorem k_X12_isGood (l : Launch) (g : kG) (N : Nat) (M : kMem) (a0 : Nat) : kMet l g yX12_isGood cX12_isGood 1 (some .boolean) 1 0 0 [.ref a0] M (fun r : Int32 => (some (.int r), M)) (F_X12_isGood N M a0) := by
  refine k_of (lv := [(0, .ref a0)]) RX12 (by decide) rfl rfl (Nat.le_of_ble_eq_true rfl) ?_
  intro p e s m args below meth c hX hr _
  unfold F_X12_isGood
  refine g_aload_n 1 0 hX dX12_isGood_0 rfl rfl ?_
  refine r_X12_209 4 hX dX12_isGood_1 rfl ?_
  refine g_if_ne 11 7 hX dX12_isGood_4 (by decide) rfl (fun _ => ?_) (fun _ => ?_)
  · refine g_iconst 12 hX 0 dX12_isGood_11 rfl kc_i_0 ?_
    exact g_zretL hX hr rfl rfl (Nat.le_refl 0) (Nat.le_refl 0) dX12_isGood_12
  · refine g_iconst 8 hX 1 dX12_isGood_7 rfl kc_i_1 ?_
    refine g_goto 12 hX dX12_isGood_8 (by decide) ?_
    exact g_zretL hX hr rfl rfl (Nat.le_refl 0) (Nat.le_refl 0) dX12_isGood_12
set_option maxRecDepth 100000 in
set_option maxHeartbeats 4000000 in
theorem k_X12_must (l : Launch) (g : kG) (N : Nat) (M : kMem) (a0 : Nat) (x1 : Int32) (x2 : Int32) : kMet l g yX12_must cX12_must 3 none 1 0 0 [.ref a0, .int x1, .int x2] M (fun r : kMem => (none, r)) (F_X12_must N M a0 x1 x2) := by
  refine k_of (lv := [(0, .ref a0), (1, .int x1), (2, .int x2)]) RX12 (by decide) rfl rfl (Nat.le_of_ble_eq_true rfl) ?_
  intro p e s m args below meth c hX hr _
  unfold F_X12_must
  refine g_aload_n 1 0 hX dX12_must_0 rfl rfl ?_
  refine r_X12_209 4 hX dX12_must_1 rfl ?_
  refine g_if_ne 24 7 hX dX12_must_4 (by decide) rfl (fun _ => ?_) (fun _ => ?_)
  · exact g_vret hX hr rfl (Nat.le_refl 0) (Nat.le_refl 0) dX12_must_24
  · refine g_iload_n 8 1 hX dX12_must_7 rfl rfl ?_
    refine g_if_ne 24 11 hX dX12_must_8 (by decide) rfl (fun _ => ?_) (fun _ => ?_)
    · exact g_vret hX hr rfl (Nat.le_refl 0) (Nat.le_refl 0) dX12_must_24
    · refine g_aload_n 12 0 hX dX12_must_11 rfl rfl ?_
      refine g_iload_n 13 2 hX dX12_must_12 rfl rfl ?_
      refine p_X12_209 16 hX dX12_must_13 rfl ?_
      refine g_klM (fun M1 hM1 => ?_)
      refine g_aload_n 17 0 hX dX12_must_16 rfl rfl ?_
      refine g_aload_n 18 0 hX dX12_must_17 rfl rfl ?_
      refine r_X12_185 21 hX dX12_must_18 rfl ?_
      refine p_X12_212 24 hX dX12_must_21 rfl ?_
      refine g_klM (fun M2 hM2 => ?_)
      exact g_vret hX hr rfl (Nat.le_refl 0) (Nat.le_refl 0) dX12_must_24
set_option maxRecDepth 100000 in
set_option maxHeartbeats 4000000 in
theorem k_X12_goesOn (l : Launch) (g : kG) (N : Nat) (M : kMem) (a0 : Nat) : kMet l g yX12_goesOn cX12_goesOn 1 none 4 0 0 [.ref a0] M (fun r : kMem => (none, r)) (F_X12_goesOn N M a0) := by
  refine k_of (lv := [(0, .ref a0)]) RX12 (by decide) rfl rfl (Nat.le_of_ble_eq_true rfl) ?_
  intro p e s m args below meth c hX hr _
  unfold F_X12_goesOn
  refine g_aload_n 1 0 hX dX12_goesOn_0 rfl rfl ?_
  refine r_X12_209 4 hX dX12_goesOn_1 rfl ?_
  refine g_if_ne 11 7 hX dX12_goesOn_4 (by decide) rfl (fun _ => ?_) (fun _ => ?_)
  · exact g_vret hX hr rfl (Nat.le_refl 0) (Nat.le_refl 0) dX12_goesOn_11
  · refine g_aload_n 8 0 hX dX12_goesOn_7 rfl rfl ?_
    refine g_callV_v 11 hX (k_X12_scan l g N M a0) lk_X12_scan rfl (ci := 12) rfl (Nat.le_of_ble_eq_true rfl) q_1772 q_46 (by omega) rfl (Nat.le_of_ble_eq_true rfl) (Nat.zero_le _) (Nat.zero_le _) dX12_goesOn_8 rfl (fun M1 => ?_)
    exact g_vret hX hr rfl (Nat.le_refl 0) (Nat.le_refl 0) dX12_goesOn_11
set_option maxRecDepth 100000 in
set_option maxHeartbeats 4000000 in
theorem k_X12_starts (l : Launch) (g : kG) (N : Nat) (M : kMem) (a0 : Nat) : kMet l g yX12_starts cX12_starts 1 none 4 0 0 [.ref a0] M (fun r : kMem => (none, r)) (F_X12_starts N M a0) := by
  refine k_of (lv := [(0, .ref a0)]) RX12 (by decide) rfl rfl (Nat.le_of_ble_eq_true rfl) ?_
  intro p e s m args below meth c hX hr _
  unfold F_X12_starts
  refine g_aload_n 1 0 hX dX12_starts_0 rfl rfl ?_
  refine g_iconst 2 hX 0 dX12_starts_1 rfl kc_i_0 ?_
  refine p_X12_179 5 hX dX12_starts_2 rfl ?_
  refine g_klM (fun M1 hM1 => ?_)
  refine g_aload_n 6 0 hX dX12_starts_5 rfl rfl ?_
  refine g_iconst 7 hX 0 dX12_starts_6 rfl kc_i_0 ?_
  refine p_X12_209 10 hX dX12_starts_7 rfl ?_
  refine g_klM (fun M2 hM2 => ?_)
  refine g_aload_n 11 0 hX dX12_starts_10 rfl rfl ?_
  refine g_callV_v 14 hX (k_X12_scan l g N M2 a0) lk_X12_scan rfl (ci := 12) rfl (Nat.le_of_ble_eq_true rfl) q_1772 q_46 (by omega) rfl (Nat.le_of_ble_eq_true rfl) (Nat.zero_le _) (Nat.zero_le _) dX12_starts_11 rfl (fun M3 => ?_)
  exact g_vret hX hr rfl (Nat.le_refl 0) (Nat.le_refl 0) dX12_starts_14
set_option maxRecDepth 100000 in
set_option maxHeartbeats 4000000 in
theorem k_X12_isWord (l : Launch) (g : kG) (N : Nat) (M : kMem) (a0 : Nat) (x1 : Int64) : kMet l g yX12_isWord cX12_isWord 3 (some .boolean) 1 0 0 [.ref a0, .long x1] M (fun r : Int32 => (some (.int r), M)) (F_X12_isWord N M a0 x1) := by
  refine k_of (lv := [(0, .ref a0), (1, .long x1)]) RX12 (by decide) rfl rfl (Nat.le_of_ble_eq_true rfl) ?_
  intro p e s m args below meth c hX hr _
  unfold F_X12_isWord
  refine g_aload_n 1 0 hX dX12_isWord_0 rfl rfl ?_
  refine r_X12_209 4 hX dX12_isWord_1 rfl ?_
  refine g_if_ne 42 7 hX dX12_isWord_4 (by decide) rfl (fun _ => ?_) (fun _ => ?_)
  · refine g_iconst 43 hX 0 dX12_isWord_42 rfl kc_i_0 ?_
    exact g_zretL hX hr rfl rfl (Nat.le_refl 0) (Nat.le_refl 0) dX12_isWord_43
  · refine g_aload_n 8 0 hX dX12_isWord_7 rfl rfl ?_
    refine r_X12_188 11 hX dX12_isWord_8 rfl ?_
    refine g_iconst 12 hX 1 dX12_isWord_11 rfl kc_i_1 ?_
    refine g_icmp_ne 42 15 hX dX12_isWord_12 (by decide) rfl (fun _ => ?_) (fun _ => ?_)
    · refine g_iconst 43 hX 0 dX12_isWord_42 rfl kc_i_0 ?_
      exact g_zretL hX hr rfl rfl (Nat.le_refl 0) (Nat.le_refl 0) dX12_isWord_43
    · refine g_aload_n 16 0 hX dX12_isWord_15 rfl rfl ?_
      refine r_X12_179 19 hX dX12_isWord_16 rfl ?_
      refine g_aload_n 20 0 hX dX12_isWord_19 rfl rfl ?_
      refine r_X12_185 23 hX dX12_isWord_20 rfl ?_
      refine g_isub 24 hX dX12_isWord_23 rfl ?_
      refine g_bipush 26 hX 12 dX12_isWord_24 rfl kc_b_12 ?_
      refine g_icmp_ge 42 29 hX dX12_isWord_26 (by decide) rfl (fun _ => ?_) (fun _ => ?_)
      · refine g_iconst 43 hX 0 dX12_isWord_42 rfl kc_i_0 ?_
        exact g_zretL hX hr rfl rfl (Nat.le_refl 0) (Nat.le_refl 0) dX12_isWord_43
      · refine g_aload_n 30 0 hX dX12_isWord_29 rfl rfl ?_
        refine r_X12_194 33 hX dX12_isWord_30 rfl ?_
        refine g_lload_n 34 1 hX dX12_isWord_33 rfl rfl ?_
        refine g_lcmp 35 hX dX12_isWord_34 rfl ?_
        refine g_if_ne 42 38 hX dX12_isWord_35 (by decide) rfl (fun _ => ?_) (fun _ => ?_)
        · refine g_iconst 43 hX 0 dX12_isWord_42 rfl kc_i_0 ?_
          exact g_zretL hX hr rfl rfl (Nat.le_refl 0) (Nat.le_refl 0) dX12_isWord_43
        · refine g_iconst 39 hX 1 dX12_isWord_38 rfl kc_i_1 ?_
          refine g_goto 43 hX dX12_isWord_39 (by decide) ?_
          exact g_zretL hX hr rfl rfl (Nat.le_refl 0) (Nat.le_refl 0) dX12_isWord_43
set_option maxRecDepth 100000 in
set_option maxHeartbeats 4000000 in
theorem k_X12_isSign (l : Launch) (g : kG) (N : Nat) (M : kMem) (a0 : Nat) (x1 : Int32) : kMet l g yX12_isSign cX12_isSign 2 (some .boolean) 1 0 0 [.ref a0, .int x1] M (fun r : Int32 => (some (.int r), M)) (F_X12_isSign N M a0 x1) := by
  refine k_of (lv := [(0, .ref a0), (1, .int x1)]) RX12 (by decide) rfl rfl (Nat.le_of_ble_eq_true rfl) ?_
  intro p e s m args below meth c hX hr _
  unfold F_X12_isSign
  refine g_aload_n 1 0 hX dX12_isSign_0 rfl rfl ?_
  refine r_X12_209 4 hX dX12_isSign_1 rfl ?_
  refine g_if_ne 32 7 hX dX12_isSign_4 (by decide) rfl (fun _ => ?_) (fun _ => ?_)
  · refine g_iconst 33 hX 0 dX12_isSign_32 rfl kc_i_0 ?_
    exact g_zretL hX hr rfl rfl (Nat.le_refl 0) (Nat.le_refl 0) dX12_isSign_33
  · refine g_aload_n 8 0 hX dX12_isSign_7 rfl rfl ?_
    refine r_X12_188 11 hX dX12_isSign_8 rfl ?_
    refine g_iconst 12 hX 3 dX12_isSign_11 rfl kc_i_3 ?_
    refine g_icmp_ne 32 15 hX dX12_isSign_12 (by decide) rfl (fun _ => ?_) (fun _ => ?_)
    · refine g_iconst 33 hX 0 dX12_isSign_32 rfl kc_i_0 ?_
      exact g_zretL hX hr rfl rfl (Nat.le_refl 0) (Nat.le_refl 0) dX12_isSign_33
    · refine g_aload_n 16 0 hX dX12_isSign_15 rfl rfl ?_
      refine r_X12_32 19 hX dX12_isSign_16 rfl ?_
      refine g_aload_n 20 0 hX dX12_isSign_19 rfl rfl ?_
      refine r_X12_185 23 hX dX12_isSign_20 rfl ?_
      refine g_iald 24 hX dX12_isSign_23 rfl ?_
      refine g_iload_n 25 1 hX dX12_isSign_24 rfl rfl ?_
      refine g_icmp_ne 32 28 hX dX12_isSign_25 (by decide) rfl (fun _ => ?_) (fun _ => ?_)
      · refine g_iconst 33 hX 0 dX12_isSign_32 rfl kc_i_0 ?_
        exact g_zretL hX hr rfl rfl (Nat.le_refl 0) (Nat.le_refl 0) dX12_isSign_33
      · refine g_iconst 29 hX 1 dX12_isSign_28 rfl kc_i_1 ?_
        refine g_goto 33 hX dX12_isSign_29 (by decide) ?_
        exact g_zretL hX hr rfl rfl (Nat.le_refl 0) (Nat.le_refl 0) dX12_isSign_33
set_option maxRecDepth 100000 in
set_option maxHeartbeats 4000000 in
theorem k_X12_sign (l : Launch) (g : kG) (N : Nat) (M : kMem) (a0 : Nat) (x1 : Int32) : kMet l g yX12_sign cX12_sign 2 none 5 0 0 [.ref a0, .int x1] M (fun r : kMem => (none, r)) (F_X12_sign N M a0 x1) := by
  refine k_of (lv := [(0, .ref a0), (1, .int x1)]) RX12 (by decide) rfl rfl (Nat.le_of_ble_eq_true rfl) ?_
  intro p e s m args below meth c hX hr _
  unfold F_X12_sign
  refine g_aload_n 1 0 hX dX12_sign_0 rfl rfl ?_
  refine g_aload_n 2 0 hX dX12_sign_1 rfl rfl ?_
  refine g_iload_n 3 1 hX dX12_sign_2 rfl rfl ?_
  refine g_callV_ip 6 hX (k_X12_isSign l g N M a0 x1) lk_X12_isSign rfl (ci := 12) rfl (Nat.le_of_ble_eq_true rfl) q_1819 q_54 (by omega) rfl (Nat.le_of_ble_eq_true rfl) (Nat.zero_le _) (Nat.zero_le _) dX12_sign_3 rfl (fun r1 => ?_)
  refine g_iconst 7 hX 1 dX12_sign_6 rfl kc_i_1 ?_
  refine g_callV_v 10 hX (k_X12_must l g N M a0 r1 1) lk_X12_must rfl (ci := 12) rfl (Nat.le_of_ble_eq_true rfl) q_1802 q_50 (by omega) rfl (Nat.le_of_ble_eq_true rfl) (Nat.zero_le _) (Nat.zero_le _) dX12_sign_7 rfl (fun M2 => ?_)
  refine g_aload_n 11 0 hX dX12_sign_10 rfl rfl ?_
  refine g_callV_v 14 hX (k_X12_goesOn l g N M2 a0) lk_X12_goesOn rfl (ci := 12) rfl (Nat.le_of_ble_eq_true rfl) q_1806 q_51 (by omega) rfl (Nat.le_of_ble_eq_true rfl) (Nat.zero_le _) (Nat.zero_le _) dX12_sign_11 rfl (fun M3 => ?_)
  exact g_vret hX hr rfl (Nat.le_refl 0) (Nat.le_refl 0) dX12_sign_14
set_option maxRecDepth 100000 in
set_option maxHeartbeats 4000000 in
theorem k_X12_reads_14 {p : Program} {l : Launch} {e : Env} {s : State} {m : MethodId} {args : Array Value} {below : List Frame} {meth : Method} {c : Code} {g : kG} (hX : Cok (p, l, e, { frames := 2 * 5, cells := 0, slots := 0, locals := 60 * 5 }, s, m, args, below, meth, c, cX12_reads, 4, RX12, g, 5)) (hr : meth.sig.returnType = (some .int)) (N : Nat) : ∀ (M : kMem) (a0 : Nat) (x1 : Int32) (x2 : Int32) (y0 : Nat) (y1 : Int32), GG (p, l, e, { frames := 2 * 5, cells := 0, slots := 0, locals := 60 * 5 }, s, m, args, below, meth, c, cX12_reads, 4, RX12, g, 5) (fun b => MQ below (kQ g ((fun r : Int32 × kMem => (some (.int r.1), r.2)) b)) args s 0 0 (kZ g.2.2.1)) 0 0 (F_X12_reads_14 N M a0 x1 x2 y0 y1) 14 [(0, .ref a0), (1, .int x1), (2, .int x2)] [.int y1, .ref y0] M := by
  intro M a0 x1 x2 y0 y1
  unfold F_X12_reads_14
  refine g_iconst 15 hX 1 dX12_reads_14 rfl kc_i_1 ?_
  refine g_callV_v 18 hX (k_X12_must l g N M y0 y1 1) lk_X12_must rfl (ci := 12) rfl (Nat.le_of_ble_eq_true rfl) q_1802 q_50 (by omega) rfl (Nat.le_of_ble_eq_true rfl) (Nat.zero_le _) (Nat.zero_le _) dX12_reads_15 rfl (fun M1 => ?_)
  refine g_aload_n 19 0 hX dX12_reads_18 rfl rfl ?_
  refine g_aload_n 20 0 hX dX12_reads_19 rfl rfl ?_
  refine r_X12_205 23 hX dX12_reads_20 rfl ?_
  refine g_i2l 24 hX dX12_reads_23 rfl ?_
  refine g_iload_n 25 1 hX dX12_reads_24 rfl rfl ?_
  refine g_i2l 26 hX dX12_reads_25 rfl ?_
  refine g_iload_n 27 2 hX dX12_reads_26 rfl rfl ?_
  refine g_i2l 28 hX dX12_reads_27 rfl ?_
  refine g_callS_ip 31 hX (k_X12_in l g N M1 ((kI M1 a0 15).toInt64) x1.toInt64 x2.toInt64) lk_X12_in q_1754 (by omega) rfl (Nat.le_of_ble_eq_true rfl) (Nat.zero_le _) (Nat.zero_le _) dX12_reads_28 rfl (fun r2 => ?_)
  refine g_iconst 32 hX 2 dX12_reads_31 rfl kc_i_2 ?_
  refine g_callV_v 35 hX (k_X12_must l g N M1 a0 r2 2) lk_X12_must rfl (ci := 12) rfl (Nat.le_of_ble_eq_true rfl) q_1802 q_50 (by omega) rfl (Nat.le_of_ble_eq_true rfl) (Nat.zero_le _) (Nat.zero_le _) dX12_reads_32 rfl (fun M3 => ?_)
  refine g_aload_n 36 0 hX dX12_reads_35 rfl rfl ?_
  refine r_X12_205 39 hX dX12_reads_36 rfl ?_
  refine g_klI (fun v4 hv4 => ?_)
  refine g_istore_n 40 3 [(3, .int v4), (0, .ref a0), (1, .int x1), (2, .int x2)] hX dX12_reads_39 rfl rfl (Nat.le_of_ble_eq_true rfl) rfl ?_
  refine g_aload_n 41 1 hX dX12_reads_40 rfl rfl ?_
  refine g_callV_v 44 hX (k_X12_goesOn l g N M3 a0) lk_X12_goesOn rfl (ci := 12) rfl (Nat.le_of_ble_eq_true rfl) q_1806 q_51 (by omega) rfl (Nat.le_of_ble_eq_true rfl) (Nat.zero_le _) (Nat.zero_le _) dX12_reads_41 rfl (fun M5 => ?_)
  refine g_aload_n 45 1 hX dX12_reads_44 rfl rfl ?_
  refine r_X12_209 48 hX dX12_reads_45 rfl ?_
  refine g_if_ne 55 51 hX dX12_reads_48 (by decide) rfl (fun _ => ?_) (fun _ => ?_)
  · refine g_iload_n 56 2 hX dX12_reads_55 rfl rfl ?_
    exact g_iret hX hr rfl (Nat.le_refl 0) (Nat.le_refl 0) dX12_reads_56
  · refine g_iload_n 52 0 hX dX12_reads_51 rfl rfl ?_
    refine g_goto 56 hX dX12_reads_52 (by decide) ?_
    exact g_iret hX hr rfl (Nat.le_refl 0) (Nat.le_refl 0) dX12_reads_56
set_option maxRecDepth 100000 in
set_option maxHeartbeats 4000000 in
theorem k_X12_reads (l : Launch) (g : kG) (N : Nat) (M : kMem) (a0 : Nat) (x1 : Int32) (x2 : Int32) : kMet l g yX12_reads cX12_reads 4 (some .int) 5 0 0 [.ref a0, .int x1, .int x2] M (fun r : Int32 × kMem => (some (.int r.1), r.2)) (F_X12_reads N M a0 x1 x2) := by
  refine k_of (lv := [(0, .ref a0), (1, .int x1), (2, .int x2)]) RX12 (by decide) rfl rfl (Nat.le_of_ble_eq_true rfl) ?_
  intro p e s m args below meth c hX hr _
  unfold F_X12_reads
  refine g_aload_n 1 0 hX dX12_reads_0 rfl rfl ?_
  refine g_aload_n 2 0 hX dX12_reads_1 rfl rfl ?_
  refine r_X12_188 5 hX dX12_reads_2 rfl ?_
  refine g_iconst 6 hX 2 dX12_reads_5 rfl kc_i_2 ?_
  refine g_icmp_ne 13 9 hX dX12_reads_6 (by decide) rfl (fun _ => ?_) (fun _ => ?_)
  · refine g_iconst 14 hX 0 dX12_reads_13 rfl kc_i_0 ?_
    exact k_X12_reads_14 hX hr N M a0 x1 x2 a0 0
  · refine g_iconst 10 hX 1 dX12_reads_9 rfl kc_i_1 ?_
    refine g_goto 14 hX dX12_reads_10 (by decide) ?_
    exact k_X12_reads_14 hX hr N M a0 x1 x2 a0 1
set_option maxRecDepth 100000 in
set_option maxHeartbeats 4000000 in
theorem k_X12_isNameHere (l : Launch) (g : kG) (N : Nat) (M : kMem) (a0 : Nat) : kMet l g yX12_isNameHere cX12_isNameHere 1 (some .boolean) 1 0 0 [.ref a0] M (fun r : Int32 => (some (.int r), M)) (F_X12_isNameHere N M a0) := by
  refine k_of (lv := [(0, .ref a0)]) RX12 (by decide) rfl rfl (Nat.le_of_ble_eq_true rfl) ?_
  intro p e s m args below meth c hX hr _
  unfold F_X12_isNameHere
  refine g_aload_n 1 0 hX dX12_isNameHere_0 rfl rfl ?_
  refine r_X12_188 4 hX dX12_isNameHere_1 rfl ?_
  refine g_iconst 5 hX 1 dX12_isNameHere_4 rfl kc_i_1 ?_
  refine g_icmp_ne 26 8 hX dX12_isNameHere_5 (by decide) rfl (fun _ => ?_) (fun _ => ?_)
  · refine g_iconst 27 hX 0 dX12_isNameHere_26 rfl kc_i_0 ?_
    exact g_zretL hX hr rfl rfl (Nat.le_refl 0) (Nat.le_refl 0) dX12_isNameHere_27
  · refine g_aload_n 9 0 hX dX12_isNameHere_8 rfl rfl ?_
    refine r_X12_179 12 hX dX12_isNameHere_9 rfl ?_
    refine g_aload_n 13 0 hX dX12_isNameHere_12 rfl rfl ?_
    refine r_X12_185 16 hX dX12_isNameHere_13 rfl ?_
    refine g_isub 17 hX dX12_isNameHere_16 rfl ?_
    refine g_bipush 19 hX 6 dX12_isNameHere_17 rfl kc_b_6 ?_
    refine g_icmp_gt 26 22 hX dX12_isNameHere_19 (by decide) rfl (fun _ => ?_) (fun _ => ?_)
    · refine g_iconst 27 hX 0 dX12_isNameHere_26 rfl kc_i_0 ?_
      exact g_zretL hX hr rfl rfl (Nat.le_refl 0) (Nat.le_refl 0) dX12_isNameHere_27
    · refine g_iconst 23 hX 1 dX12_isNameHere_22 rfl kc_i_1 ?_
      refine g_goto 27 hX dX12_isNameHere_23 (by decide) ?_
      exact g_zretL hX hr rfl rfl (Nat.le_refl 0) (Nat.le_refl 0) dX12_isNameHere_27
set_option maxRecDepth 100000 in
set_option maxHeartbeats 4000000 in
theorem k_X12_named (l : Launch) (g : kG) (N : Nat) (M : kMem) (a0 : Nat) : kMet l g yX12_named cX12_named 1 (some .int) 4 0 0 [.ref a0] M (fun r : Int32 => (some (.int r), M)) (F_X12_named N M a0) := by
  refine k_of (lv := [(0, .ref a0)]) RX12 (by decide) rfl rfl (Nat.le_of_ble_eq_true rfl) ?_
  intro p e s m args below meth c hX hr _
  unfold F_X12_named
  refine g_aload_n 1 0 hX dX12_named_0 rfl rfl ?_
  refine g_callV_ip 4 hX (k_X12_isGood l g N M a0) lk_X12_isGood rfl (ci := 12) rfl (Nat.le_of_ble_eq_true rfl) q_1828 q_56 (by omega) rfl (Nat.le_of_ble_eq_true rfl) (Nat.zero_le _) (Nat.zero_le _) dX12_named_1 rfl (fun r1 => ?_)
  refine g_if_eq 19 7 hX dX12_named_4 (by decide) rfl (fun _ => ?_) (fun _ => ?_)
  · refine g_iconst 20 hX (-1) dX12_named_19 rfl kc_i_m1 ?_
    exact g_iret hX hr rfl (Nat.le_refl 0) (Nat.le_refl 0) dX12_named_20
  · refine g_aload_n 8 0 hX dX12_named_7 rfl rfl ?_
    refine g_aload_n 9 0 hX dX12_named_8 rfl rfl ?_
    refine r_X12_194 12 hX dX12_named_9 rfl ?_
    refine g_l2i 13 hX dX12_named_12 rfl ?_
    refine g_callV_ip 16 hX (k_X12_traderNamed l g N M a0 ((kL M a0 20).toInt32)) lk_X12_traderNamed rfl (ci := 12) rfl (Nat.le_of_ble_eq_true rfl) q_1845 q_60 (by omega) rfl (Nat.le_of_ble_eq_true rfl) (Nat.zero_le _) (Nat.zero_le _) dX12_named_13 rfl (fun r2 => ?_)
    refine g_goto 20 hX dX12_named_16 (by decide) ?_
    exact g_iret hX hr rfl (Nat.le_refl 0) (Nat.le_refl 0) dX12_named_20
set_option maxRecDepth 100000 in
set_option maxHeartbeats 4000000 in
theorem k_X12_boardText (l : Launch) (g : kG) (N : Nat) (M : kMem) (a0 : Nat) : kMet l g yX12_boardText cX12_boardText 4 none 6 0 0 [.ref a0] M (fun r : kMem => (none, r)) (F_X12_boardText N M a0) := by
  refine k_of (lv := [(0, .ref a0)]) RX12 (by decide) rfl rfl (Nat.le_of_ble_eq_true rfl) ?_
  intro p e s m args below meth c hX hr _
  unfold F_X12_boardText
  refine g_aload_n 1 0 hX dX12_boardText_0 rfl rfl ?_
  refine g_iconst 2 hX 1 dX12_boardText_1 rfl kc_i_1 ?_
  refine g_bipush 4 hX 6 dX12_boardText_2 rfl kc_b_6 ?_
  refine g_callV_i 7 hX (k_X12_reads l g N M a0 1 6) lk_X12_reads rfl (ci := 12) rfl (Nat.le_of_ble_eq_true rfl) q_1810 q_52 (by omega) rfl (Nat.le_of_ble_eq_true rfl) (Nat.zero_le _) (Nat.zero_le _) dX12_boardText_4 rfl (fun r1 => ?_)
  refine g_klI (fun v2 hv2 => ?_)
  refine g_istore_n 8 1 [(1, .int v2), (0, .ref a0)] hX dX12_boardText_7 rfl rfl (Nat.le_of_ble_eq_true rfl) rfl ?_
  refine g_aload_n 9 1 hX dX12_boardText_8 rfl rfl ?_
  refine g_iconst 10 hX 1 dX12_boardText_9 rfl kc_i_1 ?_
  refine g_bipush 12 hX 99 dX12_boardText_10 rfl kc_b_99 ?_
  refine g_callV_i 15 hX (k_X12_reads l g N r1.2 a0 1 99) lk_X12_reads rfl (ci := 12) rfl (Nat.le_of_ble_eq_true rfl) q_1810 q_52 (by omega) rfl (Nat.le_of_ble_eq_true rfl) (Nat.zero_le _) (Nat.zero_le _) dX12_boardText_12 rfl (fun r3 => ?_)
  refine g_klI (fun v4 hv4 => ?_)
  refine g_istore_n 16 2 [(2, .int v4), (1, .int v2), (0, .ref a0)] hX dX12_boardText_15 rfl rfl (Nat.le_of_ble_eq_true rfl) rfl ?_
  refine g_aload_n 17 2 hX dX12_boardText_16 rfl rfl ?_
  refine g_iconst 18 hX 0 dX12_boardText_17 rfl kc_i_0 ?_
  refine g_sipush 21 hX 999 dX12_boardText_18 rfl kc_s_999 ?_
  refine g_callV_i 24 hX (k_X12_reads l g N r3.2 a0 0 999) lk_X12_reads rfl (ci := 12) rfl (Nat.le_of_ble_eq_true rfl) q_1810 q_52 (by omega) rfl (Nat.le_of_ble_eq_true rfl) (Nat.zero_le _) (Nat.zero_le _) dX12_boardText_21 rfl (fun r5 => ?_)
  refine g_klI (fun v6 hv6 => ?_)
  refine g_istore_n 25 3 [(3, .int v6), (2, .int v4), (1, .int v2), (0, .ref a0)] hX dX12_boardText_24 rfl rfl (Nat.le_of_ble_eq_true rfl) rfl ?_
  refine g_aload_n 26 3 hX dX12_boardText_25 rfl rfl ?_
  refine g_callV_ip 29 hX (k_X12_isGood l g N r5.2 a0) lk_X12_isGood rfl (ci := 12) rfl (Nat.le_of_ble_eq_true rfl) q_1828 q_56 (by omega) rfl (Nat.le_of_ble_eq_true rfl) (Nat.zero_le _) (Nat.zero_le _) dX12_boardText_26 rfl (fun r7 => ?_)
  refine g_if_eq 39 32 hX dX12_boardText_29 (by decide) rfl (fun _ => ?_) (fun _ => ?_)
  · exact g_vret hX hr rfl (Nat.le_refl 0) (Nat.le_refl 0) dX12_boardText_39
  · refine g_aload_n 33 3 hX dX12_boardText_32 rfl rfl ?_
    refine g_iload_n 34 2 hX dX12_boardText_33 rfl rfl ?_
    refine g_iload_n 35 1 hX dX12_boardText_34 rfl rfl ?_
    refine g_iload_n 36 0 hX dX12_boardText_35 rfl rfl ?_
    refine g_callV_v 39 hX (k_X12_builds l g N r5.2 a0 v2 v4 v6) lk_X12_builds rfl (ci := 12) rfl (Nat.le_of_ble_eq_true rfl) q_1610 q_36 (by omega) rfl (Nat.le_of_ble_eq_true rfl) (Nat.zero_le _) (Nat.zero_le _) dX12_boardText_36 rfl (fun M8 => ?_)
    exact g_vret hX hr rfl (Nat.le_refl 0) (Nat.le_refl 0) dX12_boardText_39
set_option maxRecDepth 100000 in
set_option maxHeartbeats 4000000 in
theorem k_X12_traderText_23 {p : Program} {l : Launch} {e : Env} {s : State} {m : MethodId} {args : Array Value} {below : List Frame} {meth : Method} {c : Code} {g : kG} (hX : Cok (p, l, e, { frames := 2 * 6, cells := 0, slots := 0, locals := 60 * 6 }, s, m, args, below, meth, c, cX12_traderText, 5, RX12, g, 6)) (hr : meth.sig.returnType = none) (N : Nat) : ∀ (M : kMem) (a0 : Nat) (y0 : Nat) (y1 : Int32), GG (p, l, e, { frames := 2 * 6, cells := 0, slots := 0, locals := 60 * 6 }, s, m, args, below, meth, c, cX12_traderText, 5, RX12, g, 6) (fun b => MQ below (kQ g ((fun r : kMem => (none, r)) b)) args s 0 0 (kZ g.2.2.1)) 0 0 (F_X12_traderText_23 N M a0 y0 y1) 23 [(0, .ref a0)] [.int y1, .ref y0] M := by
  intro M a0 y0 y1
  unfold F_X12_traderText_23
  refine g_iconst 24 hX 3 dX12_traderText_23 rfl kc_i_3 ?_
  refine g_callV_v 27 hX (k_X12_must l g N M y0 y1 3) lk_X12_must rfl (ci := 12) rfl (Nat.le_of_ble_eq_true rfl) q_1802 q_50 (by omega) rfl (Nat.le_of_ble_eq_true rfl) (Nat.zero_le _) (Nat.zero_le _) dX12_traderText_24 rfl (fun M4 => ?_)
  refine g_aload_n 28 0 hX dX12_traderText_27 rfl rfl ?_
  refine r_X12_194 31 hX dX12_traderText_28 rfl ?_
  refine g_l2i 32 hX dX12_traderText_31 rfl ?_
  refine g_klI (fun v5 hv5 => ?_)
  refine g_istore_n 33 1 [(1, .int v5), (0, .ref a0)] hX dX12_traderText_32 rfl rfl (Nat.le_of_ble_eq_true rfl) rfl ?_
  refine g_aload_n 34 1 hX dX12_traderText_33 rfl rfl ?_
  refine g_callV_v 37 hX (k_X12_goesOn l g N M4 a0) lk_X12_goesOn rfl (ci := 12) rfl (Nat.le_of_ble_eq_true rfl) q_1806 q_51 (by omega) rfl (Nat.le_of_ble_eq_true rfl) (Nat.zero_le _) (Nat.zero_le _) dX12_traderText_34 rfl (fun M6 => ?_)
  refine g_aload_n 38 1 hX dX12_traderText_37 rfl rfl ?_
  refine g_iconst 39 hX 1 dX12_traderText_38 rfl kc_i_1 ?_
  refine g_bipush 41 hX 99 dX12_traderText_39 rfl kc_b_99 ?_
  refine g_callV_i 44 hX (k_X12_reads l g N M6 a0 1 99) lk_X12_reads rfl (ci := 12) rfl (Nat.le_of_ble_eq_true rfl) q_1810 q_52 (by omega) rfl (Nat.le_of_ble_eq_true rfl) (Nat.zero_le _) (Nat.zero_le _) dX12_traderText_41 rfl (fun r7 => ?_)
  refine g_klI (fun v8 hv8 => ?_)
  refine g_istore_n 45 2 [(2, .int v8), (1, .int v5), (0, .ref a0)] hX dX12_traderText_44 rfl rfl (Nat.le_of_ble_eq_true rfl) rfl ?_
  refine g_aload_n 46 2 hX dX12_traderText_45 rfl rfl ?_
  refine g_iconst 47 hX 0 dX12_traderText_46 rfl kc_i_0 ?_
  refine g_sipush 50 hX 9999 dX12_traderText_47 rfl kc_s_9999 ?_
  refine g_callV_i 53 hX (k_X12_reads l g N r7.2 a0 0 9999) lk_X12_reads rfl (ci := 12) rfl (Nat.le_of_ble_eq_true rfl) q_1810 q_52 (by omega) rfl (Nat.le_of_ble_eq_true rfl) (Nat.zero_le _) (Nat.zero_le _) dX12_traderText_50 rfl (fun r9 => ?_)
  refine g_klI (fun v10 hv10 => ?_)
  refine g_istore_n 54 3 [(3, .int v10), (2, .int v8), (1, .int v5), (0, .ref a0)] hX dX12_traderText_53 rfl rfl (Nat.le_of_ble_eq_true rfl) rfl ?_
  refine g_aload_n 55 3 hX dX12_traderText_54 rfl rfl ?_
  refine g_iconst 56 hX 0 dX12_traderText_55 rfl kc_i_0 ?_
  refine g_sipush 59 hX 999 dX12_traderText_56 rfl kc_s_999 ?_
  refine g_aload_n 60 3 hX dX12_traderText_59 rfl rfl ?_
  refine r_X12_7 63 hX dX12_traderText_60 rfl ?_
  refine g_iconst 64 hX 3 dX12_traderText_63 rfl kc_i_3 ?_
  refine g_iald 65 hX dX12_traderText_64 rfl ?_
  refine g_callS_ip 68 hX (k_X12_lesser l g N r9.2 999 (kI r9.2 (kR r9.2 a0 0) (kx 3))) lk_X12_lesser q_1849 (by omega) rfl (Nat.le_of_ble_eq_true rfl) (Nat.zero_le _) (Nat.zero_le _) dX12_traderText_65 rfl (fun r11 => ?_)
  refine g_callV_i 71 hX (k_X12_reads l g N r9.2 a0 0 r11) lk_X12_reads rfl (ci := 12) rfl (Nat.le_of_ble_eq_true rfl) q_1810 q_52 (by omega) rfl (Nat.le_of_ble_eq_true rfl) (Nat.zero_le _) (Nat.zero_le _) dX12_traderText_68 rfl (fun r12 => ?_)
  refine g_klI (fun v13 hv13 => ?_)
  refine g_istore 73 4 [(4, .int v13), (3, .int v10), (2, .int v8), (1, .int v5), (0, .ref a0)] hX dX12_traderText_71 rfl (Nat.le_of_ble_eq_true rfl) rfl ?_
  refine g_aload_n 74 4 hX dX12_traderText_73 rfl rfl ?_
  refine g_callV_ip 77 hX (k_X12_isGood l g N r12.2 a0) lk_X12_isGood rfl (ci := 12) rfl (Nat.le_of_ble_eq_true rfl) q_1828 q_56 (by omega) rfl (Nat.le_of_ble_eq_true rfl) (Nat.zero_le _) (Nat.zero_le _) dX12_traderText_74 rfl (fun r14 => ?_)
  refine g_if_eq 89 80 hX dX12_traderText_77 (by decide) rfl (fun _ => ?_) (fun _ => ?_)
  · exact g_vret hX hr rfl (Nat.le_refl 0) (Nat.le_refl 0) dX12_traderText_89
  · refine g_aload_n 81 4 hX dX12_traderText_80 rfl rfl ?_
    refine g_iload_n 82 3 hX dX12_traderText_81 rfl rfl ?_
    refine g_iload_n 83 2 hX dX12_traderText_82 rfl rfl ?_
    refine g_iload_n 84 1 hX dX12_traderText_83 rfl rfl ?_
    refine g_iload 86 0 hX dX12_traderText_84 rfl rfl ?_
    refine g_callV_v 89 hX (k_X12_appears l g N r12.2 a0 v5 v8 v10 v13) lk_X12_appears rfl (ci := 12) rfl (Nat.le_of_ble_eq_true rfl) q_1617 q_37 (by omega) rfl (Nat.le_of_ble_eq_true rfl) (Nat.zero_le _) (Nat.zero_le _) dX12_traderText_86 rfl (fun M15 => ?_)
    exact g_vret hX hr rfl (Nat.le_refl 0) (Nat.le_refl 0) dX12_traderText_89
set_option maxRecDepth 100000 in
set_option maxHeartbeats 4000000 in
theorem k_X12_traderText (l : Launch) (g : kG) (N : Nat) (M : kMem) (a0 : Nat) : kMet l g yX12_traderText cX12_traderText 5 none 6 0 0 [.ref a0] M (fun r : kMem => (none, r)) (F_X12_traderText N M a0) := by
  refine k_of (lv := [(0, .ref a0)]) RX12 (by decide) rfl rfl (Nat.le_of_ble_eq_true rfl) ?_
  intro p e s m args below meth c hX hr _
  unfold F_X12_traderText
  refine g_aload_n 1 0 hX dX12_traderText_0 rfl rfl ?_
  refine g_aload_n 2 0 hX dX12_traderText_1 rfl rfl ?_
  refine g_callV_ip 5 hX (k_X12_isNameHere l g N M a0) lk_X12_isNameHere rfl (ci := 12) rfl (Nat.le_of_ble_eq_true rfl) q_1837 q_58 (by omega) rfl (Nat.le_of_ble_eq_true rfl) (Nat.zero_le _) (Nat.zero_le _) dX12_traderText_2 rfl (fun r1 => ?_)
  refine g_iconst 6 hX 1 dX12_traderText_5 rfl kc_i_1 ?_
  refine g_callV_v 9 hX (k_X12_must l g N M a0 r1 1) lk_X12_must rfl (ci := 12) rfl (Nat.le_of_ble_eq_true rfl) q_1802 q_50 (by omega) rfl (Nat.le_of_ble_eq_true rfl) (Nat.zero_le _) (Nat.zero_le _) dX12_traderText_6 rfl (fun M2 => ?_)
  refine g_aload_n 10 0 hX dX12_traderText_9 rfl rfl ?_
  refine g_aload_n 11 0 hX dX12_traderText_10 rfl rfl ?_
  refine g_callV_ip 14 hX (k_X12_named l g N M2 a0) lk_X12_named rfl (ci := 12) rfl (Nat.le_of_ble_eq_true rfl) q_1841 q_59 (by omega) rfl (Nat.le_of_ble_eq_true rfl) (Nat.zero_le _) (Nat.zero_le _) dX12_traderText_11 rfl (fun r3 => ?_)
  refine g_iconst 15 hX (-1) dX12_traderText_14 rfl kc_i_m1 ?_
  refine g_icmp_ne 22 18 hX dX12_traderText_15 (by decide) rfl (fun _ => ?_) (fun _ => ?_)
  · refine g_iconst 23 hX 0 dX12_traderText_22 rfl kc_i_0 ?_
    exact k_X12_traderText_23 hX hr N M2 a0 a0 0
  · refine g_iconst 19 hX 1 dX12_traderText_18 rfl kc_i_1 ?_
    refine g_goto 23 hX dX12_traderText_19 (by decide) ?_
    exact k_X12_traderText_23 hX hr N M2 a0 a0 1
set_option maxRecDepth 100000 in
set_option maxHeartbeats 4000000 in
theorem k_X12_sideText_29 {p : Program} {l : Launch} {e : Env} {s : State} {m : MethodId} {args : Array Value} {below : List Frame} {meth : Method} {c : Code} {g : kG} (hX : Cok (p, l, e, { frames := 2 * 5, cells := 0, slots := 0, locals := 60 * 5 }, s, m, args, below, meth, c, cX12_sideText, 2, RX12, g, 5)) (hr : meth.sig.returnType = (some .int)) (N : Nat) : ∀ (M : kMem) (a0 : Nat) (y0 : Int32), GG (p, l, e, { frames := 2 * 5, cells := 0, slots := 0, locals := 60 * 5 }, s, m, args, below, meth, c, cX12_sideText, 2, RX12, g, 5) (fun b => MQ below (kQ g ((fun r : Int32 × kMem => (some (.int r.1), r.2)) b)) args s 0 0 (kZ g.2.2.1)) 0 0 (F_X12_sideText_29 N M a0 y0) 29 [(0, .ref a0)] [.int y0] M := by
  intro M a0 y0
  unfold F_X12_sideText_29
  refine g_istore_n 30 1 [(1, .int y0), (0, .ref a0)] hX dX12_sideText_29 rfl rfl (Nat.le_of_ble_eq_true rfl) rfl ?_
  refine g_aload_n 31 1 hX dX12_sideText_30 rfl rfl ?_
  refine g_iload_n 32 0 hX dX12_sideText_31 rfl rfl ?_
  refine g_if_eq 39 35 hX dX12_sideText_32 (by decide) rfl (fun _ => ?_) (fun _ => ?_)
  · refine g_iconst 40 hX 0 dX12_sideText_39 rfl kc_i_0 ?_
    refine g_iconst 41 hX 1 dX12_sideText_40 rfl kc_i_1 ?_
    refine g_callV_v 44 hX (k_X12_must l g N M a0 0 1) lk_X12_must rfl (ci := 12) rfl (Nat.le_of_ble_eq_true rfl) q_1802 q_50 (by omega) rfl (Nat.le_of_ble_eq_true rfl) (Nat.zero_le _) (Nat.zero_le _) dX12_sideText_41 rfl (fun M3 => ?_)
    refine g_aload_n 45 1 hX dX12_sideText_44 rfl rfl ?_
    refine g_callV_v 48 hX (k_X12_goesOn l g N M3 a0) lk_X12_goesOn rfl (ci := 12) rfl (Nat.le_of_ble_eq_true rfl) q_1806 q_51 (by omega) rfl (Nat.le_of_ble_eq_true rfl) (Nat.zero_le _) (Nat.zero_le _) dX12_sideText_45 rfl (fun M4 => ?_)
    refine g_iload_n 49 0 hX dX12_sideText_48 rfl rfl ?_
    exact g_iret hX hr rfl (Nat.le_refl 0) (Nat.le_refl 0) dX12_sideText_49
  · refine g_iconst 36 hX 1 dX12_sideText_35 rfl kc_i_1 ?_
    refine g_goto 40 hX dX12_sideText_36 (by decide) ?_
    refine g_iconst 41 hX 1 dX12_sideText_40 rfl kc_i_1 ?_
    refine g_callV_v 44 hX (k_X12_must l g N M a0 1 1) lk_X12_must rfl (ci := 12) rfl (Nat.le_of_ble_eq_true rfl) q_1802 q_50 (by omega) rfl (Nat.le_of_ble_eq_true rfl) (Nat.zero_le _) (Nat.zero_le _) dX12_sideText_41 rfl (fun M5 => ?_)
    refine g_aload_n 45 1 hX dX12_sideText_44 rfl rfl ?_
    refine g_callV_v 48 hX (k_X12_goesOn l g N M5 a0) lk_X12_goesOn rfl (ci := 12) rfl (Nat.le_of_ble_eq_true rfl) q_1806 q_51 (by omega) rfl (Nat.le_of_ble_eq_true rfl) (Nat.zero_le _) (Nat.zero_le _) dX12_sideText_45 rfl (fun M6 => ?_)
    refine g_iload_n 49 0 hX dX12_sideText_48 rfl rfl ?_
    exact g_iret hX hr rfl (Nat.le_refl 0) (Nat.le_refl 0) dX12_sideText_49
set_option maxRecDepth 100000 in
set_option maxHeartbeats 4000000 in
theorem k_X12_sideText (l : Launch) (g : kG) (N : Nat) (M : kMem) (a0 : Nat) : kMet l g yX12_sideText cX12_sideText 2 (some .int) 5 0 0 [.ref a0] M (fun r : Int32 × kMem => (some (.int r.1), r.2)) (F_X12_sideText N M a0) := by
  refine k_of (lv := [(0, .ref a0)]) RX12 (by decide) rfl rfl (Nat.le_of_ble_eq_true rfl) ?_
  intro p e s m args below meth c hX hr _
  unfold F_X12_sideText
  refine g_aload_n 1 0 hX dX12_sideText_0 rfl rfl ?_
  refine g_ldc2 4 hX 398548 dX12_sideText_1 rfl q_1865 ?_
  refine g_callV_ip 7 hX (k_X12_isWord l g N M a0 398548) lk_X12_isWord rfl (ci := 12) rfl (Nat.le_of_ble_eq_true rfl) q_1798 q_49 (by omega) rfl (Nat.le_of_ble_eq_true rfl) (Nat.zero_le _) (Nat.zero_le _) dX12_sideText_4 rfl (fun r1 => ?_)
  refine g_if_eq 14 10 hX dX12_sideText_7 (by decide) rfl (fun _ => ?_) (fun _ => ?_)
  · refine g_aload_n 15 0 hX dX12_sideText_14 rfl rfl ?_
    refine g_ldc2 18 hX 19176724 dX12_sideText_15 rfl q_1866 ?_
    refine g_callV_ip 21 hX (k_X12_isWord l g N M a0 19176724) lk_X12_isWord rfl (ci := 12) rfl (Nat.le_of_ble_eq_true rfl) q_1798 q_49 (by omega) rfl (Nat.le_of_ble_eq_true rfl) (Nat.zero_le _) (Nat.zero_le _) dX12_sideText_18 rfl (fun r2 => ?_)
    refine g_if_eq 28 24 hX dX12_sideText_21 (by decide) rfl (fun _ => ?_) (fun _ => ?_)
    · refine g_iconst 29 hX 0 dX12_sideText_28 rfl kc_i_0 ?_
      exact k_X12_sideText_29 hX hr N M a0 0
    · refine g_iconst 25 hX 1 dX12_sideText_24 rfl kc_i_1 ?_
      refine g_goto 29 hX dX12_sideText_25 (by decide) ?_
      exact k_X12_sideText_29 hX hr N M a0 1
  · refine g_iconst 11 hX (-1) dX12_sideText_10 rfl kc_i_m1 ?_
    refine g_goto 29 hX dX12_sideText_11 (by decide) ?_
    exact k_X12_sideText_29 hX hr N M a0 (-1)
set_option maxRecDepth 100000 in
set_option maxHeartbeats 4000000 in
theorem k_X12_seatText_187 {p : Program} {l : Launch} {e : Env} {s : State} {m : MethodId} {args : Array Value} {below : List Frame} {meth : Method} {c : Code} {g : kG} (hX : Cok (p, l, e, { frames := 2 * 6, cells := 0, slots := 0, locals := 60 * 6 }, s, m, args, below, meth, c, cX12_seatText, 5, RX12, g, 6)) (hr : meth.sig.returnType = none) (N : Nat) : ∀ (M : kMem) (a0 : Nat) (x1 : Int32) (x2 : Int32) (x4 : Int32) (y0 : Nat) (y1 : Int32), GG (p, l, e, { frames := 2 * 6, cells := 0, slots := 0, locals := 60 * 6 }, s, m, args, below, meth, c, cX12_seatText, 5, RX12, g, 6) (fun b => MQ below (kQ g ((fun r : kMem => (none, r)) b)) args s 0 0 (kZ g.2.2.1)) 0 0 (F_X12_seatText_187 N M a0 x1 x2 x4 y0 y1) 187 [(0, .ref a0), (1, .int x1), (2, .int x2), (4, .int x4)] [.int y1, .ref y0] M := by
  intro M a0 x1 x2 x4 y0 y1
  unfold F_X12_seatText_187
  refine g_iconst 188 hX 3 dX12_seatText_187 rfl kc_i_3 ?_
  refine g_callV_v 191 hX (k_X12_must l g N M y0 y1 3) lk_X12_must rfl (ci := 12) rfl (Nat.le_of_ble_eq_true rfl) q_1802 q_50 (by omega) rfl (Nat.le_of_ble_eq_true rfl) (Nat.zero_le _) (Nat.zero_le _) dX12_seatText_188 rfl (fun M18 => ?_)
  refine g_aload_n 192 0 hX dX12_seatText_191 rfl rfl ?_
  refine g_callV_v 195 hX (k_X12_goesOn l g N M18 a0) lk_X12_goesOn rfl (ci := 12) rfl (Nat.le_of_ble_eq_true rfl) q_1806 q_51 (by omega) rfl (Nat.le_of_ble_eq_true rfl) (Nat.zero_le _) (Nat.zero_le _) dX12_seatText_192 rfl (fun M19 => ?_)
  refine g_aload_n 196 0 hX dX12_seatText_195 rfl rfl ?_
  refine g_callV_ip 199 hX (k_X12_isGood l g N M19 a0) lk_X12_isGood rfl (ci := 12) rfl (Nat.le_of_ble_eq_true rfl) q_1828 q_56 (by omega) rfl (Nat.le_of_ble_eq_true rfl) (Nat.zero_le _) (Nat.zero_le _) dX12_seatText_196 rfl (fun r20 => ?_)
  refine g_if_eq 210 202 hX dX12_seatText_199 (by decide) rfl (fun _ => ?_) (fun _ => ?_)
  · exact g_vret hX hr rfl (Nat.le_refl 0) (Nat.le_refl 0) dX12_seatText_210
  · refine g_aload_n 203 0 hX dX12_seatText_202 rfl rfl ?_
    refine g_iload_n 204 1 hX dX12_seatText_203 rfl rfl ?_
    refine g_iload_n 205 2 hX dX12_seatText_204 rfl rfl ?_
    refine g_iload 207 3 hX dX12_seatText_205 rfl rfl ?_
    refine g_callV_v 210 hX (k_X12_sits l g N M19 a0 x1 x2 x4) lk_X12_sits rfl (ci := 12) rfl (Nat.le_of_ble_eq_true rfl) q_1624 q_38 (by omega) rfl (Nat.le_of_ble_eq_true rfl) (Nat.zero_le _) (Nat.zero_le _) dX12_seatText_207 rfl (fun M21 => ?_)
    exact g_vret hX hr rfl (Nat.le_refl 0) (Nat.le_refl 0) dX12_seatText_210
set_option maxRecDepth 100000 in
set_option maxHeartbeats 4000000 in
theorem k_X12_seatText_182 {p : Program} {l : Launch} {e : Env} {s : State} {m : MethodId} {args : Array Value} {below : List Frame} {meth : Method} {c : Code} {g : kG} (hX : Cok (p, l, e, { frames := 2 * 6, cells := 0, slots := 0, locals := 60 * 6 }, s, m, args, below, meth, c, cX12_seatText, 5, RX12, g, 6)) (hr : meth.sig.returnType = none) (N : Nat) : ∀ (M : kMem) (a0 : Nat) (x1 : Int32) (x2 : Int32) (x4 : Int32) (y0 : Nat), GG (p, l, e, { frames := 2 * 6, cells := 0, slots := 0, locals := 60 * 6 }, s, m, args, below, meth, c, cX12_seatText, 5, RX12, g, 6) (fun b => MQ below (kQ g ((fun r : kMem => (none, r)) b)) args s 0 0 (kZ g.2.2.1)) 0 0 (F_X12_seatText_182 N M a0 x1 x2 x4 y0) 182 [(0, .ref a0), (1, .int x1), (2, .int x2), (4, .int x4)] [.ref y0] M := by
  intro M a0 x1 x2 x4 y0
  unfold F_X12_seatText_182
  refine g_iconst 183 hX 1 dX12_seatText_182 rfl kc_i_1 ?_
  refine g_goto 187 hX dX12_seatText_183 (by decide) ?_
  exact k_X12_seatText_187 hX hr N M a0 x1 x2 x4 y0 1
set_option maxRecDepth 100000 in
set_option maxHeartbeats 4000000 in
theorem k_X12_seatText_161 {p : Program} {l : Launch} {e : Env} {s : State} {m : MethodId} {args : Array Value} {below : List Frame} {meth : Method} {c : Code} {g : kG} (hX : Cok (p, l, e, { frames := 2 * 6, cells := 0, slots := 0, locals := 60 * 6 }, s, m, args, below, meth, c, cX12_seatText, 5, RX12, g, 6)) (hr : meth.sig.returnType = none) (N : Nat) : ∀ (M : kMem) (a0 : Nat) (x1 : Int32) (x2 : Int32) (y0 : Int32), GG (p, l, e, { frames := 2 * 6, cells := 0, slots := 0, locals := 60 * 6 }, s, m, args, below, meth, c, cX12_seatText, 5, RX12, g, 6) (fun b => MQ below (kQ g ((fun r : kMem => (none, r)) b)) args s 0 0 (kZ g.2.2.1)) 0 0 (F_X12_seatText_161 N M a0 x1 x2 y0) 161 [(0, .ref a0), (1, .int x1), (2, .int x2)] [.int y0] M := by
  intro M a0 x1 x2 y0
  unfold F_X12_seatText_161
  refine g_istore 163 4 [(4, .int y0), (0, .ref a0), (1, .int x1), (2, .int x2)] hX dX12_seatText_161 rfl (Nat.le_of_ble_eq_true rfl) rfl ?_
  refine g_aload_n 164 1 hX dX12_seatText_163 rfl rfl ?_
  refine g_aload_n 165 1 hX dX12_seatText_164 rfl rfl ?_
  refine g_callV_ip 168 hX (k_X12_isGood l g N M a0) lk_X12_isGood rfl (ci := 12) rfl (Nat.le_of_ble_eq_true rfl) q_1828 q_56 (by omega) rfl (Nat.le_of_ble_eq_true rfl) (Nat.zero_le _) (Nat.zero_le _) dX12_seatText_165 rfl (fun r17 => ?_)
  refine g_if_eq 182 171 hX dX12_seatText_168 (by decide) rfl (fun _ => ?_) (fun _ => ?_)
  · refine g_lv [1, 2, 3, 0] rfl ?_
    exact k_X12_seatText_182 hX hr N M a0 x1 x2 y0 a0
  · refine g_aload_n 172 1 hX dX12_seatText_171 rfl rfl ?_
    refine g_iload_n 173 3 hX dX12_seatText_172 rfl rfl ?_
    refine g_iload 175 0 hX dX12_seatText_173 rfl rfl ?_
    refine g_callV_ip 178 hX (k_X12_onSeat l g N M a0 x2 y0) lk_X12_onSeat rfl (ci := 12) rfl (Nat.le_of_ble_eq_true rfl) q_1871 q_65 (by omega) rfl (Nat.le_of_ble_eq_true rfl) (Nat.zero_le _) (Nat.zero_le _) dX12_seatText_175 rfl (fun r22 => ?_)
    refine g_iconst 179 hX (-1) dX12_seatText_178 rfl kc_i_m1 ?_
    refine g_icmp_ne 186 182 hX dX12_seatText_179 (by decide) rfl (fun _ => ?_) (fun _ => ?_)
    · refine g_iconst 187 hX 0 dX12_seatText_186 rfl kc_i_0 ?_
      refine g_lv [1, 2, 3, 0] rfl ?_
      exact k_X12_seatText_187 hX hr N M a0 x1 x2 y0 a0 0
    · refine g_lv [1, 2, 3, 0] rfl ?_
      exact k_X12_seatText_182 hX hr N M a0 x1 x2 y0 a0
set_option maxRecDepth 100000 in
set_option maxHeartbeats 4000000 in
theorem k_X12_seatText_140 {p : Program} {l : Launch} {e : Env} {s : State} {m : MethodId} {args : Array Value} {below : List Frame} {meth : Method} {c : Code} {g : kG} (hX : Cok (p, l, e, { frames := 2 * 6, cells := 0, slots := 0, locals := 60 * 6 }, s, m, args, below, meth, c, cX12_seatText, 5, RX12, g, 6)) (hr : meth.sig.returnType = none) (N : Nat) : ∀ (M : kMem) (a0 : Nat) (x1 : Int32) (x2 : Int32) (x3 : Int32) (y0 : Nat) (y1 : Int32), GG (p, l, e, { frames := 2 * 6, cells := 0, slots := 0, locals := 60 * 6 }, s, m, args, below, meth, c, cX12_seatText, 5, RX12, g, 6) (fun b => MQ below (kQ g ((fun r : kMem => (none, r)) b)) args s 0 0 (kZ g.2.2.1)) 0 0 (F_X12_seatText_140 N M a0 x1 x2 x3 y0 y1) 140 [(0, .ref a0), (1, .int x1), (2, .int x2), (3, .int x3)] [.int y1, .ref y0] M := by
  intro M a0 x1 x2 x3 y0 y1
  unfold F_X12_seatText_140
  refine g_iconst 141 hX 2 dX12_seatText_140 rfl kc_i_2 ?_
  refine g_callV_v 144 hX (k_X12_must l g N M y0 y1 2) lk_X12_must rfl (ci := 12) rfl (Nat.le_of_ble_eq_true rfl) q_1802 q_50 (by omega) rfl (Nat.le_of_ble_eq_true rfl) (Nat.zero_le _) (Nat.zero_le _) dX12_seatText_141 rfl (fun M15 => ?_)
  refine g_aload_n 145 0 hX dX12_seatText_144 rfl rfl ?_
  refine g_callV_ip 148 hX (k_X12_isGood l g N M15 a0) lk_X12_isGood rfl (ci := 12) rfl (Nat.le_of_ble_eq_true rfl) q_1828 q_56 (by omega) rfl (Nat.le_of_ble_eq_true rfl) (Nat.zero_le _) (Nat.zero_le _) dX12_seatText_145 rfl (fun r16 => ?_)
  refine g_if_eq 160 151 hX dX12_seatText_148 (by decide) rfl (fun _ => ?_) (fun _ => ?_)
  · refine g_iconst 161 hX 1 dX12_seatText_160 rfl kc_i_1 ?_
    refine g_lv [0, 1, 2] rfl ?_
    exact k_X12_seatText_161 hX hr N M15 a0 x1 x2 1
  · refine g_iload_n 152 3 hX dX12_seatText_151 rfl rfl ?_
    refine g_aload_n 153 0 hX dX12_seatText_152 rfl rfl ?_
    refine r_X12_205 156 hX dX12_seatText_153 rfl ?_
    refine g_imul 157 hX dX12_seatText_156 rfl ?_
    refine g_goto 161 hX dX12_seatText_157 (by decide) ?_
    refine g_lv [0, 1, 2] rfl ?_
    exact k_X12_seatText_161 hX hr N M15 a0 x1 x2 (x3 * (kI M15 a0 15))
set_option maxRecDepth 100000 in
set_option maxHeartbeats 4000000 in
theorem k_X12_seatText_135 {p : Program} {l : Launch} {e : Env} {s : State} {m : MethodId} {args : Array Value} {below : List Frame} {meth : Method} {c : Code} {g : kG} (hX : Cok (p, l, e, { frames := 2 * 6, cells := 0, slots := 0, locals := 60 * 6 }, s, m, args, below, meth, c, cX12_seatText, 5, RX12, g, 6)) (hr : meth.sig.returnType = none) (N : Nat) : ∀ (M : kMem) (a0 : Nat) (x1 : Int32) (x2 : Int32) (x3 : Int32) (y0 : Nat), GG (p, l, e, { frames := 2 * 6, cells := 0, slots := 0, locals := 60 * 6 }, s, m, args, below, meth, c, cX12_seatText, 5, RX12, g, 6) (fun b => MQ below (kQ g ((fun r : kMem => (none, r)) b)) args s 0 0 (kZ g.2.2.1)) 0 0 (F_X12_seatText_135 N M a0 x1 x2 x3 y0) 135 [(0, .ref a0), (1, .int x1), (2, .int x2), (3, .int x3)] [.ref y0] M := by
  intro M a0 x1 x2 x3 y0
  unfold F_X12_seatText_135
  refine g_iconst 136 hX 1 dX12_seatText_135 rfl kc_i_1 ?_
  refine g_goto 140 hX dX12_seatText_136 (by decide) ?_
  exact k_X12_seatText_140 hX hr N M a0 x1 x2 x3 y0 1
set_option maxRecDepth 100000 in
set_option maxHeartbeats 4000000 in
theorem k_X12_seatText_104 {p : Program} {l : Launch} {e : Env} {s : State} {m : MethodId} {args : Array Value} {below : List Frame} {meth : Method} {c : Code} {g : kG} (hX : Cok (p, l, e, { frames := 2 * 6, cells := 0, slots := 0, locals := 60 * 6 }, s, m, args, below, meth, c, cX12_seatText, 5, RX12, g, 6)) (hr : meth.sig.returnType = none) (N : Nat) : ∀ (M : kMem) (a0 : Nat) (x1 : Int32) (x2 : Int32) (x3 : Int32) (y0 : Nat) (y1 : Int32), GG (p, l, e, { frames := 2 * 6, cells := 0, slots := 0, locals := 60 * 6 }, s, m, args, below, meth, c, cX12_seatText, 5, RX12, g, 6) (fun b => MQ below (kQ g ((fun r : kMem => (none, r)) b)) args s 0 0 (kZ g.2.2.1)) 0 0 (F_X12_seatText_104 N M a0 x1 x2 x3 y0 y1) 104 [(0, .ref a0), (1, .int x1), (2, .int x2), (3, .int x3)] [.int y1, .ref y0] M := by
  intro M a0 x1 x2 x3 y0 y1
  unfold F_X12_seatText_104
  refine g_iconst 105 hX 1 dX12_seatText_104 rfl kc_i_1 ?_
  refine g_callV_v 108 hX (k_X12_must l g N M y0 y1 1) lk_X12_must rfl (ci := 12) rfl (Nat.le_of_ble_eq_true rfl) q_1802 q_50 (by omega) rfl (Nat.le_of_ble_eq_true rfl) (Nat.zero_le _) (Nat.zero_le _) dX12_seatText_105 rfl (fun M13 => ?_)
  refine g_aload_n 109 0 hX dX12_seatText_108 rfl rfl ?_
  refine g_aload_n 110 0 hX dX12_seatText_109 rfl rfl ?_
  refine g_callV_ip 113 hX (k_X12_isGood l g N M13 a0) lk_X12_isGood rfl (ci := 12) rfl (Nat.le_of_ble_eq_true rfl) q_1828 q_56 (by omega) rfl (Nat.le_of_ble_eq_true rfl) (Nat.zero_le _) (Nat.zero_le _) dX12_seatText_110 rfl (fun r14 => ?_)
  refine g_if_eq 135 116 hX dX12_seatText_113 (by decide) rfl (fun _ => ?_) (fun _ => ?_)
  · exact k_X12_seatText_135 hX hr N M13 a0 x1 x2 x3 a0
  · refine g_aload_n 117 0 hX dX12_seatText_116 rfl rfl ?_
    refine r_X12_205 120 hX dX12_seatText_117 rfl ?_
    refine g_i2l 121 hX dX12_seatText_120 rfl ?_
    refine g_lconst 122 hX 1 dX12_seatText_121 rfl rfl ?_
    refine g_aload_n 123 0 hX dX12_seatText_122 rfl rfl ?_
    refine g_iload_n 124 2 hX dX12_seatText_123 rfl rfl ?_
    refine g_iconst 125 hX 0 dX12_seatText_124 rfl kc_i_0 ?_
    refine g_callV_ip 128 hX (k_X12_ofBoard l g N M13 a0 x2 0) lk_X12_ofBoard rfl (ci := 12) rfl (Nat.le_of_ble_eq_true rfl) q_1867 q_64 (by omega) rfl (Nat.le_of_ble_eq_true rfl) (Nat.zero_le _) (Nat.zero_le _) dX12_seatText_125 rfl (fun r23 => ?_)
    refine g_i2l 129 hX dX12_seatText_128 rfl ?_
    refine g_callS_ip 132 hX (k_X12_in l g N M13 ((kI M13 a0 15).toInt64) 1 r23.toInt64) lk_X12_in q_1754 (by omega) rfl (Nat.le_of_ble_eq_true rfl) (Nat.zero_le _) (Nat.zero_le _) dX12_seatText_129 rfl (fun r24 => ?_)
    refine g_if_eq 139 135 hX dX12_seatText_132 (by decide) rfl (fun _ => ?_) (fun _ => ?_)
    · refine g_iconst 140 hX 0 dX12_seatText_139 rfl kc_i_0 ?_
      exact k_X12_seatText_140 hX hr N M13 a0 x1 x2 x3 a0 0
    · exact k_X12_seatText_135 hX hr N M13 a0 x1 x2 x3 a0
set_option maxRecDepth 100000 in
set_option maxHeartbeats 4000000 in
theorem k_X12_seatText_62 {p : Program} {l : Launch} {e : Env} {s : State} {m : MethodId} {args : Array Value} {below : List Frame} {meth : Method} {c : Code} {g : kG} (hX : Cok (p, l, e, { frames := 2 * 6, cells := 0, slots := 0, locals := 60 * 6 }, s, m, args, below, meth, c, cX12_seatText, 5, RX12, g, 6)) (hr : meth.sig.returnType = none) (N : Nat) : ∀ (M : kMem) (a0 : Nat) (x1 : Int32) (y0 : Nat) (y1 : Int32), GG (p, l, e, { frames := 2 * 6, cells := 0, slots := 0, locals := 60 * 6 }, s, m, args, below, meth, c, cX12_seatText, 5, RX12, g, 6) (fun b => MQ below (kQ g ((fun r : kMem => (none, r)) b)) args s 0 0 (kZ g.2.2.1)) 0 0 (F_X12_seatText_62 N M a0 x1 y0 y1) 62 [(0, .ref a0), (1, .int x1)] [.int y1, .ref y0] M := by
  intro M a0 x1 y0 y1
  unfold F_X12_seatText_62
  refine g_iconst 63 hX 4 dX12_seatText_62 rfl kc_i_4 ?_
  refine g_callV_v 66 hX (k_X12_must l g N M y0 y1 4) lk_X12_must rfl (ci := 12) rfl (Nat.le_of_ble_eq_true rfl) q_1802 q_50 (by omega) rfl (Nat.le_of_ble_eq_true rfl) (Nat.zero_le _) (Nat.zero_le _) dX12_seatText_63 rfl (fun M7 => ?_)
  refine g_aload_n 67 0 hX dX12_seatText_66 rfl rfl ?_
  refine g_callV_v 70 hX (k_X12_goesOn l g N M7 a0) lk_X12_goesOn rfl (ci := 12) rfl (Nat.le_of_ble_eq_true rfl) q_1806 q_51 (by omega) rfl (Nat.le_of_ble_eq_true rfl) (Nat.zero_le _) (Nat.zero_le _) dX12_seatText_67 rfl (fun M8 => ?_)
  refine g_aload_n 71 0 hX dX12_seatText_70 rfl rfl ?_
  refine g_iconst 72 hX 0 dX12_seatText_71 rfl kc_i_0 ?_
  refine g_aload_n 73 0 hX dX12_seatText_72 rfl rfl ?_
  refine r_X12_7 76 hX dX12_seatText_73 rfl ?_
  refine g_bipush 78 hX 7 dX12_seatText_76 rfl kc_b_7 ?_
  refine g_iald 79 hX dX12_seatText_78 rfl ?_
  refine g_iconst 80 hX 1 dX12_seatText_79 rfl kc_i_1 ?_
  refine g_isub 81 hX dX12_seatText_80 rfl ?_
  refine g_callV_i 84 hX (k_X12_reads l g N M8 a0 0 ((kI M8 (kR M8 a0 0) (kx 7)) - 1)) lk_X12_reads rfl (ci := 12) rfl (Nat.le_of_ble_eq_true rfl) q_1810 q_52 (by omega) rfl (Nat.le_of_ble_eq_true rfl) (Nat.zero_le _) (Nat.zero_le _) dX12_seatText_81 rfl (fun r9 => ?_)
  refine g_klI (fun v10 hv10 => ?_)
  refine g_istore_n 85 2 [(2, .int v10), (0, .ref a0), (1, .int x1)] hX dX12_seatText_84 rfl rfl (Nat.le_of_ble_eq_true rfl) rfl ?_
  refine g_aload_n 86 1 hX dX12_seatText_85 rfl rfl ?_
  refine g_callV_i 89 hX (k_X12_sideText l g N r9.2 a0) lk_X12_sideText rfl (ci := 12) rfl (Nat.le_of_ble_eq_true rfl) q_1861 q_63 (by omega) rfl (Nat.le_of_ble_eq_true rfl) (Nat.zero_le _) (Nat.zero_le _) dX12_seatText_86 rfl (fun r11 => ?_)
  refine g_klI (fun v12 hv12 => ?_)
  refine g_istore_n 90 3 [(3, .int v12), (2, .int v10), (0, .ref a0), (1, .int x1)] hX dX12_seatText_89 rfl rfl (Nat.le_of_ble_eq_true rfl) rfl ?_
  refine g_aload_n 91 2 hX dX12_seatText_90 rfl rfl ?_
  refine g_aload_n 92 2 hX dX12_seatText_91 rfl rfl ?_
  refine r_X12_188 95 hX dX12_seatText_92 rfl ?_
  refine g_iconst 96 hX 2 dX12_seatText_95 rfl kc_i_2 ?_
  refine g_icmp_ne 103 99 hX dX12_seatText_96 (by decide) rfl (fun _ => ?_) (fun _ => ?_)
  · refine g_iconst 104 hX 0 dX12_seatText_103 rfl kc_i_0 ?_
    refine g_lv [2, 3, 1, 0] rfl ?_
    exact k_X12_seatText_104 hX hr N r11.2 a0 x1 v10 v12 a0 0
  · refine g_iconst 100 hX 1 dX12_seatText_99 rfl kc_i_1 ?_
    refine g_goto 104 hX dX12_seatText_100 (by decide) ?_
    refine g_lv [2, 3, 1, 0] rfl ?_
    exact k_X12_seatText_104 hX hr N r11.2 a0 x1 v10 v12 a0 1
set_option maxRecDepth 100000 in
set_option maxHeartbeats 4000000 in
theorem k_X12_seatText_57 {p : Program} {l : Launch} {e : Env} {s : State} {m : MethodId} {args : Array Value} {below : List Frame} {meth : Method} {c : Code} {g : kG} (hX : Cok (p, l, e, { frames := 2 * 6, cells := 0, slots := 0, locals := 60 * 6 }, s, m, args, below, meth, c, cX12_seatText, 5, RX12, g, 6)) (hr : meth.sig.returnType = none) (N : Nat) : ∀ (M : kMem) (a0 : Nat) (x1 : Int32) (y0 : Nat), GG (p, l, e, { frames := 2 * 6, cells := 0, slots := 0, locals := 60 * 6 }, s, m, args, below, meth, c, cX12_seatText, 5, RX12, g, 6) (fun b => MQ below (kQ g ((fun r : kMem => (none, r)) b)) args s 0 0 (kZ g.2.2.1)) 0 0 (F_X12_seatText_57 N M a0 x1 y0) 57 [(0, .ref a0), (1, .int x1)] [.ref y0] M := by
  intro M a0 x1 y0
  unfold F_X12_seatText_57
  refine g_iconst 58 hX 1 dX12_seatText_57 rfl kc_i_1 ?_
  refine g_goto 62 hX dX12_seatText_58 (by decide) ?_
  exact k_X12_seatText_62 hX hr N M a0 x1 y0 1
set_option maxRecDepth 100000 in
set_option maxHeartbeats 4000000 in
theorem k_X12_seatText_40 {p : Program} {l : Launch} {e : Env} {s : State} {m : MethodId} {args : Array Value} {below : List Frame} {meth : Method} {c : Code} {g : kG} (hX : Cok (p, l, e, { frames := 2 * 6, cells := 0, slots := 0, locals := 60 * 6 }, s, m, args, below, meth, c, cX12_seatText, 5, RX12, g, 6)) (hr : meth.sig.returnType = none) (N : Nat) : ∀ (M : kMem) (a0 : Nat) (x1 : Int32) (y0 : Nat) (y1 : Int32), GG (p, l, e, { frames := 2 * 6, cells := 0, slots := 0, locals := 60 * 6 }, s, m, args, below, meth, c, cX12_seatText, 5, RX12, g, 6) (fun b => MQ below (kQ g ((fun r : kMem => (none, r)) b)) args s 0 0 (kZ g.2.2.1)) 0 0 (F_X12_seatText_40 N M a0 x1 y0 y1) 40 [(0, .ref a0), (1, .int x1)] [.int y1, .ref y0] M := by
  intro M a0 x1 y0 y1
  unfold F_X12_seatText_40
  refine g_iconst 41 hX 3 dX12_seatText_40 rfl kc_i_3 ?_
  refine g_callV_v 44 hX (k_X12_must l g N M y0 y1 3) lk_X12_must rfl (ci := 12) rfl (Nat.le_of_ble_eq_true rfl) q_1802 q_50 (by omega) rfl (Nat.le_of_ble_eq_true rfl) (Nat.zero_le _) (Nat.zero_le _) dX12_seatText_41 rfl (fun M5 => ?_)
  refine g_aload_n 45 0 hX dX12_seatText_44 rfl rfl ?_
  refine g_aload_n 46 0 hX dX12_seatText_45 rfl rfl ?_
  refine g_callV_ip 49 hX (k_X12_isGood l g N M5 a0) lk_X12_isGood rfl (ci := 12) rfl (Nat.le_of_ble_eq_true rfl) q_1828 q_56 (by omega) rfl (Nat.le_of_ble_eq_true rfl) (Nat.zero_le _) (Nat.zero_le _) dX12_seatText_46 rfl (fun r6 => ?_)
  refine g_if_eq 57 52 hX dX12_seatText_49 (by decide) rfl (fun _ => ?_) (fun _ => ?_)
  · exact k_X12_seatText_57 hX hr N M5 a0 x1 a0
  · refine g_iload_n 53 1 hX dX12_seatText_52 rfl rfl ?_
    refine g_iconst 54 hX (-1) dX12_seatText_53 rfl kc_i_m1 ?_
    refine g_icmp_eq 61 57 hX dX12_seatText_54 (by decide) rfl (fun _ => ?_) (fun _ => ?_)
    · refine g_iconst 62 hX 0 dX12_seatText_61 rfl kc_i_0 ?_
      exact k_X12_seatText_62 hX hr N M5 a0 x1 a0 0
    · exact k_X12_seatText_57 hX hr N M5 a0 x1 a0
set_option maxRecDepth 100000 in
set_option maxHeartbeats 4000000 in
theorem k_X12_seatText_35 {p : Program} {l : Launch} {e : Env} {s : State} {m : MethodId} {args : Array Value} {below : List Frame} {meth : Method} {c : Code} {g : kG} (hX : Cok (p, l, e, { frames := 2 * 6, cells := 0, slots := 0, locals := 60 * 6 }, s, m, args, below, meth, c, cX12_seatText, 5, RX12, g, 6)) (hr : meth.sig.returnType = none) (N : Nat) : ∀ (M : kMem) (a0 : Nat) (x1 : Int32) (y0 : Nat), GG (p, l, e, { frames := 2 * 6, cells := 0, slots := 0, locals := 60 * 6 }, s, m, args, below, meth, c, cX12_seatText, 5, RX12, g, 6) (fun b => MQ below (kQ g ((fun r : kMem => (none, r)) b)) args s 0 0 (kZ g.2.2.1)) 0 0 (F_X12_seatText_35 N M a0 x1 y0) 35 [(0, .ref a0), (1, .int x1)] [.ref y0] M := by
  intro M a0 x1 y0
  unfold F_X12_seatText_35
  refine g_iconst 36 hX 1 dX12_seatText_35 rfl kc_i_1 ?_
  refine g_goto 40 hX dX12_seatText_36 (by decide) ?_
  exact k_X12_seatText_40 hX hr N M a0 x1 y0 1
set_option maxRecDepth 100000 in
set_option maxHeartbeats 4000000 in
theorem k_X12_seatText (l : Launch) (g : kG) (N : Nat) (M : kMem) (a0 : Nat) : kMet l g yX12_seatText cX12_seatText 5 none 6 0 0 [.ref a0] M (fun r : kMem => (none, r)) (F_X12_seatText N M a0) := by
  refine k_of (lv := [(0, .ref a0)]) RX12 (by decide) rfl rfl (Nat.le_of_ble_eq_true rfl) ?_
  intro p e s m args below meth c hX hr _
  unfold F_X12_seatText
  refine g_aload_n 1 0 hX dX12_seatText_0 rfl rfl ?_
  refine g_aload_n 2 0 hX dX12_seatText_1 rfl rfl ?_
  refine g_callV_ip 5 hX (k_X12_isNameHere l g N M a0) lk_X12_isNameHere rfl (ci := 12) rfl (Nat.le_of_ble_eq_true rfl) q_1837 q_58 (by omega) rfl (Nat.le_of_ble_eq_true rfl) (Nat.zero_le _) (Nat.zero_le _) dX12_seatText_2 rfl (fun r1 => ?_)
  refine g_iconst 6 hX 1 dX12_seatText_5 rfl kc_i_1 ?_
  refine g_callV_v 9 hX (k_X12_must l g N M a0 r1 1) lk_X12_must rfl (ci := 12) rfl (Nat.le_of_ble_eq_true rfl) q_1802 q_50 (by omega) rfl (Nat.le_of_ble_eq_true rfl) (Nat.zero_le _) (Nat.zero_le _) dX12_seatText_6 rfl (fun M2 => ?_)
  refine g_aload_n 10 0 hX dX12_seatText_9 rfl rfl ?_
  refine g_callV_ip 13 hX (k_X12_named l g N M2 a0) lk_X12_named rfl (ci := 12) rfl (Nat.le_of_ble_eq_true rfl) q_1841 q_59 (by omega) rfl (Nat.le_of_ble_eq_true rfl) (Nat.zero_le _) (Nat.zero_le _) dX12_seatText_10 rfl (fun r3 => ?_)
  refine g_istore_n 14 1 [(1, .int r3), (0, .ref a0)] hX dX12_seatText_13 rfl rfl (Nat.le_of_ble_eq_true rfl) rfl ?_
  refine g_aload_n 15 1 hX dX12_seatText_14 rfl rfl ?_
  refine g_aload_n 16 1 hX dX12_seatText_15 rfl rfl ?_
  refine g_callV_ip 19 hX (k_X12_isGood l g N M2 a0) lk_X12_isGood rfl (ci := 12) rfl (Nat.le_of_ble_eq_true rfl) q_1828 q_56 (by omega) rfl (Nat.le_of_ble_eq_true rfl) (Nat.zero_le _) (Nat.zero_le _) dX12_seatText_16 rfl (fun r4 => ?_)
  refine g_if_eq 35 22 hX dX12_seatText_19 (by decide) rfl (fun _ => ?_) (fun _ => ?_)
  · refine g_lv [1, 0] rfl ?_
    exact k_X12_seatText_35 hX hr N M2 a0 r3 a0
  · refine g_iload_n 23 0 hX dX12_seatText_22 rfl rfl ?_
    refine g_iconst 24 hX (-1) dX12_seatText_23 rfl kc_i_m1 ?_
    refine g_icmp_eq 35 27 hX dX12_seatText_24 (by decide) rfl (fun _ => ?_) (fun _ => ?_)
    · refine g_lv [1, 0] rfl ?_
      exact k_X12_seatText_35 hX hr N M2 a0 r3 a0
    · refine g_aload_n 28 1 hX dX12_seatText_27 rfl rfl ?_
      refine g_iload_n 29 0 hX dX12_seatText_28 rfl rfl ?_
      refine g_callV_ip 32 hX (k_X12_isSeated l g N M2 a0 r3) lk_X12_isSeated rfl (ci := 12) rfl (Nat.le_of_ble_eq_true rfl) q_1857 q_62 (by omega) rfl (Nat.le_of_ble_eq_true rfl) (Nat.zero_le _) (Nat.zero_le _) dX12_seatText_29 rfl (fun r25 => ?_)
      refine g_if_ne 39 35 hX dX12_seatText_32 (by decide) rfl (fun _ => ?_) (fun _ => ?_)
      · refine g_iconst 40 hX 0 dX12_seatText_39 rfl kc_i_0 ?_
        refine g_lv [1, 0] rfl ?_
        exact k_X12_seatText_40 hX hr N M2 a0 r3 a0 0
      · refine g_lv [1, 0] rfl ?_
        exact k_X12_seatText_35 hX hr N M2 a0 r3 a0
set_option maxRecDepth 100000 in
set_option maxHeartbeats 4000000 in
theorem k_X12_setup_200 {p : Program} {l : Launch} {e : Env} {s : State} {m : MethodId} {args : Array Value} {below : List Frame} {meth : Method} {c : Code} {g : kG} (hX : Cok (p, l, e, { frames := 2 * 7, cells := 0, slots := 0, locals := 60 * 7 }, s, m, args, below, meth, c, cX12_setup, 1, RX12, g, 7)) (hr : meth.sig.returnType = none) (N : Nat) : ∀ (n : Nat) (M : kMem) (a0 : Nat), GG (p, l, e, { frames := 2 * 7, cells := 0, slots := 0, locals := 60 * 7 }, s, m, args, below, meth, c, cX12_setup, 1, RX12, g, 7) (fun b => MQ below (kQ g ((fun r : kMem => (none, r)) b)) args s 0 0 (kZ g.2.2.1)) 0 0 (F_X12_setup_200 N n M a0) 200 [(0, .ref a0)] [] M := by
  intro n
  induction n with
  | zero => intro _ _; exact g_none
  | succ n ih =>
    intro M a0
    unfold F_X12_setup_200
    refine g_aload_n 201 0 hX dX12_setup_200 rfl rfl ?_
    refine g_ldc2 204 hX 627764 dX12_setup_201 rfl q_1852 ?_
    refine g_callV_ip 207 hX (k_X12_isWord l g N M a0 627764) lk_X12_isWord rfl (ci := 12) rfl (Nat.le_of_ble_eq_true rfl) q_1798 q_49 (by omega) rfl (Nat.le_of_ble_eq_true rfl) (Nat.zero_le _) (Nat.zero_le _) dX12_setup_204 rfl (fun r19 => ?_)
    refine g_if_eq 227 210 hX dX12_setup_207 (by decide) rfl (fun _ => ?_) (fun _ => ?_)
    · refine g_aload_n 228 0 hX dX12_setup_227 rfl rfl ?_
      refine g_aload_n 229 0 hX dX12_setup_228 rfl rfl ?_
      refine r_X12_188 232 hX dX12_setup_229 rfl ?_
      refine g_if_ne 239 235 hX dX12_setup_232 (by decide) rfl (fun _ => ?_) (fun _ => ?_)
      · refine g_iconst 240 hX 0 dX12_setup_239 rfl kc_i_0 ?_
        refine g_iconst 241 hX 1 dX12_setup_240 rfl kc_i_1 ?_
        refine g_callV_v 244 hX (k_X12_must l g N M a0 0 1) lk_X12_must rfl (ci := 12) rfl (Nat.le_of_ble_eq_true rfl) q_1802 q_50 (by omega) rfl (Nat.le_of_ble_eq_true rfl) (Nat.zero_le _) (Nat.zero_le _) dX12_setup_241 rfl (fun M20 => ?_)
        exact g_vret hX hr rfl (Nat.le_refl 0) (Nat.le_refl 0) dX12_setup_244
      · refine g_iconst 236 hX 1 dX12_setup_235 rfl kc_i_1 ?_
        refine g_goto 240 hX dX12_setup_236 (by decide) ?_
        refine g_iconst 241 hX 1 dX12_setup_240 rfl kc_i_1 ?_
        refine g_callV_v 244 hX (k_X12_must l g N M a0 1 1) lk_X12_must rfl (ci := 12) rfl (Nat.le_of_ble_eq_true rfl) q_1802 q_50 (by omega) rfl (Nat.le_of_ble_eq_true rfl) (Nat.zero_le _) (Nat.zero_le _) dX12_setup_241 rfl (fun M21 => ?_)
        exact g_vret hX hr rfl (Nat.le_refl 0) (Nat.le_refl 0) dX12_setup_244
    · refine g_aload_n 211 0 hX dX12_setup_210 rfl rfl ?_
      refine g_callV_v 214 hX (k_X12_goesOn l g N M a0) lk_X12_goesOn rfl (ci := 12) rfl (Nat.le_of_ble_eq_true rfl) q_1806 q_51 (by omega) rfl (Nat.le_of_ble_eq_true rfl) (Nat.zero_le _) (Nat.zero_le _) dX12_setup_211 rfl (fun M22 => ?_)
      refine g_aload_n 215 0 hX dX12_setup_214 rfl rfl ?_
      refine g_callV_v 218 hX (k_X12_seatText l g N M22 a0) lk_X12_seatText rfl (ci := 12) rfl (Nat.le_of_ble_eq_true rfl) q_1853 q_61 (by omega) rfl (Nat.le_of_ble_eq_true rfl) (Nat.zero_le _) (Nat.zero_le _) dX12_setup_215 rfl (fun M23 => ?_)
      refine g_aload_n 219 0 hX dX12_setup_218 rfl rfl ?_
      refine g_bipush 221 hX 59 dX12_setup_219 rfl kc_b_59 ?_
      refine g_callV_v 224 hX (k_X12_sign l g N M23 a0 59) lk_X12_sign rfl (ci := 12) rfl (Nat.le_of_ble_eq_true rfl) q_1815 q_53 (by omega) rfl (Nat.le_of_ble_eq_true rfl) (Nat.zero_le _) (Nat.zero_le _) dX12_setup_221 rfl (fun M24 => ?_)
      refine g_goto 200 hX dX12_setup_224 (by decide) ?_
      exact ih M24 a0
set_option maxRecDepth 100000 in
set_option maxHeartbeats 4000000 in
theorem k_X12_setup_179 {p : Program} {l : Launch} {e : Env} {s : State} {m : MethodId} {args : Array Value} {below : List Frame} {meth : Method} {c : Code} {g : kG} (hX : Cok (p, l, e, { frames := 2 * 7, cells := 0, slots := 0, locals := 60 * 7 }, s, m, args, below, meth, c, cX12_setup, 1, RX12, g, 7)) (hr : meth.sig.returnType = none) (N : Nat) (k151 : kMem → Nat → Option (kMem)) (h151 : ∀ (M : kMem) (a0 : Nat), GG (p, l, e, { frames := 2 * 7, cells := 0, slots := 0, locals := 60 * 7 }, s, m, args, below, meth, c, cX12_setup, 1, RX12, g, 7) (fun b => MQ below (kQ g ((fun r : kMem => (none, r)) b)) args s 0 0 (kZ g.2.2.1)) 0 0 (k151 M a0) 151 [(0, .ref a0)] [] M) : ∀ (M : kMem) (a0 : Nat) (y0 : Nat) (y1 : Int32), GG (p, l, e, { frames := 2 * 7, cells := 0, slots := 0, locals := 60 * 7 }, s, m, args, below, meth, c, cX12_setup, 1, RX12, g, 7) (fun b => MQ below (kQ g ((fun r : kMem => (none, r)) b)) args s 0 0 (kZ g.2.2.1)) 0 0 (F_X12_setup_179 N k151 M a0 y0 y1) 179 [(0, .ref a0)] [.int y1, .ref y0] M := by
  intro M a0 y0 y1
  unfold F_X12_setup_179
  refine g_iconst 180 hX 5 dX12_setup_179 rfl kc_i_5 ?_
  refine g_callV_v 183 hX (k_X12_must l g N M y0 y1 5) lk_X12_must rfl (ci := 12) rfl (Nat.le_of_ble_eq_true rfl) q_1802 q_50 (by omega) rfl (Nat.le_of_ble_eq_true rfl) (Nat.zero_le _) (Nat.zero_le _) dX12_setup_180 rfl (fun M25 => ?_)
  refine g_aload_n 184 0 hX dX12_setup_183 rfl rfl ?_
  refine g_callV_v 187 hX (k_X12_goesOn l g N M25 a0) lk_X12_goesOn rfl (ci := 12) rfl (Nat.le_of_ble_eq_true rfl) q_1806 q_51 (by omega) rfl (Nat.le_of_ble_eq_true rfl) (Nat.zero_le _) (Nat.zero_le _) dX12_setup_184 rfl (fun M26 => ?_)
  refine g_aload_n 188 0 hX dX12_setup_187 rfl rfl ?_
  refine g_callV_v 191 hX (k_X12_traderText l g N M26 a0) lk_X12_traderText rfl (ci := 12) rfl (Nat.le_of_ble_eq_true rfl) q_1833 q_57 (by omega) rfl (Nat.le_of_ble_eq_true rfl) (Nat.zero_le _) (Nat.zero_le _) dX12_setup_188 rfl (fun M27 => ?_)
  refine g_aload_n 192 0 hX dX12_setup_191 rfl rfl ?_
  refine g_bipush 194 hX 59 dX12_setup_192 rfl kc_b_59 ?_
  refine g_callV_v 197 hX (k_X12_sign l g N M27 a0 59) lk_X12_sign rfl (ci := 12) rfl (Nat.le_of_ble_eq_true rfl) q_1815 q_53 (by omega) rfl (Nat.le_of_ble_eq_true rfl) (Nat.zero_le _) (Nat.zero_le _) dX12_setup_194 rfl (fun M28 => ?_)
  refine g_goto 151 hX dX12_setup_197 (by decide) ?_
  exact h151 M28 a0
set_option maxRecDepth 100000 in
set_option maxHeartbeats 4000000 in
theorem k_X12_setup_151 {p : Program} {l : Launch} {e : Env} {s : State} {m : MethodId} {args : Array Value} {below : List Frame} {meth : Method} {c : Code} {g : kG} (hX : Cok (p, l, e, { frames := 2 * 7, cells := 0, slots := 0, locals := 60 * 7 }, s, m, args, below, meth, c, cX12_setup, 1, RX12, g, 7)) (hr : meth.sig.returnType = none) (N : Nat) : ∀ (n : Nat) (M : kMem) (a0 : Nat), GG (p, l, e, { frames := 2 * 7, cells := 0, slots := 0, locals := 60 * 7 }, s, m, args, below, meth, c, cX12_setup, 1, RX12, g, 7) (fun b => MQ below (kQ g ((fun r : kMem => (none, r)) b)) args s 0 0 (kZ g.2.2.1)) 0 0 (F_X12_setup_151 N n M a0) 151 [(0, .ref a0)] [] M := by
  intro n
  induction n with
  | zero => intro _ _; exact g_none
  | succ n ih =>
    intro M a0
    unfold F_X12_setup_151
    refine g_aload_n 152 0 hX dX12_setup_151 rfl rfl ?_
    refine g_ldc2 155 hX 690000050 dX12_setup_152 rfl q_1832 ?_
    refine g_callV_ip 158 hX (k_X12_isWord l g N M a0 690000050) lk_X12_isWord rfl (ci := 12) rfl (Nat.le_of_ble_eq_true rfl) q_1798 q_49 (by omega) rfl (Nat.le_of_ble_eq_true rfl) (Nat.zero_le _) (Nat.zero_le _) dX12_setup_155 rfl (fun r18 => ?_)
    refine g_if_eq 200 161 hX dX12_setup_158 (by decide) rfl (fun _ => ?_) (fun _ => ?_)
    · exact k_X12_setup_200 hX hr N N M a0
    · refine g_aload_n 162 0 hX dX12_setup_161 rfl rfl ?_
      refine g_aload_n 163 0 hX dX12_setup_162 rfl rfl ?_
      refine r_X12_7 166 hX dX12_setup_163 rfl ?_
      refine g_bipush 168 hX 8 dX12_setup_166 rfl kc_b_8 ?_
      refine g_iald 169 hX dX12_setup_168 rfl ?_
      refine g_bipush 171 hX 24 dX12_setup_169 rfl kc_b_24 ?_
      refine g_icmp_ge 178 174 hX dX12_setup_171 (by decide) rfl (fun _ => ?_) (fun _ => ?_)
      · refine g_iconst 179 hX 0 dX12_setup_178 rfl kc_i_0 ?_
        exact k_X12_setup_179 hX hr N (fun M a0 => F_X12_setup_151 N n M a0) ih M a0 a0 0
      · refine g_iconst 175 hX 1 dX12_setup_174 rfl kc_i_1 ?_
        refine g_goto 179 hX dX12_setup_175 (by decide) ?_
        exact k_X12_setup_179 hX hr N (fun M a0 => F_X12_setup_151 N n M a0) ih M a0 a0 1
set_option maxRecDepth 100000 in
set_option maxHeartbeats 4000000 in
theorem k_X12_setup_130 {p : Program} {l : Launch} {e : Env} {s : State} {m : MethodId} {args : Array Value} {below : List Frame} {meth : Method} {c : Code} {g : kG} (hX : Cok (p, l, e, { frames := 2 * 7, cells := 0, slots := 0, locals := 60 * 7 }, s, m, args, below, meth, c, cX12_setup, 1, RX12, g, 7)) (hr : meth.sig.returnType = none) (N : Nat) (k103 : kMem → Nat → Option (kMem)) (h103 : ∀ (M : kMem) (a0 : Nat), GG (p, l, e, { frames := 2 * 7, cells := 0, slots := 0, locals := 60 * 7 }, s, m, args, below, meth, c, cX12_setup, 1, RX12, g, 7) (fun b => MQ below (kQ g ((fun r : kMem => (none, r)) b)) args s 0 0 (kZ g.2.2.1)) 0 0 (k103 M a0) 103 [(0, .ref a0)] [] M) : ∀ (M : kMem) (a0 : Nat) (y0 : Nat) (y1 : Int32), GG (p, l, e, { frames := 2 * 7, cells := 0, slots := 0, locals := 60 * 7 }, s, m, args, below, meth, c, cX12_setup, 1, RX12, g, 7) (fun b => MQ below (kQ g ((fun r : kMem => (none, r)) b)) args s 0 0 (kZ g.2.2.1)) 0 0 (F_X12_setup_130 N k103 M a0 y0 y1) 130 [(0, .ref a0)] [.int y1, .ref y0] M := by
  intro M a0 y0 y1
  unfold F_X12_setup_130
  refine g_iconst 131 hX 5 dX12_setup_130 rfl kc_i_5 ?_
  refine g_callV_v 134 hX (k_X12_must l g N M y0 y1 5) lk_X12_must rfl (ci := 12) rfl (Nat.le_of_ble_eq_true rfl) q_1802 q_50 (by omega) rfl (Nat.le_of_ble_eq_true rfl) (Nat.zero_le _) (Nat.zero_le _) dX12_setup_131 rfl (fun M29 => ?_)
  refine g_aload_n 135 0 hX dX12_setup_134 rfl rfl ?_
  refine g_callV_v 138 hX (k_X12_goesOn l g N M29 a0) lk_X12_goesOn rfl (ci := 12) rfl (Nat.le_of_ble_eq_true rfl) q_1806 q_51 (by omega) rfl (Nat.le_of_ble_eq_true rfl) (Nat.zero_le _) (Nat.zero_le _) dX12_setup_135 rfl (fun M30 => ?_)
  refine g_aload_n 139 0 hX dX12_setup_138 rfl rfl ?_
  refine g_callV_v 142 hX (k_X12_boardText l g N M30 a0) lk_X12_boardText rfl (ci := 12) rfl (Nat.le_of_ble_eq_true rfl) q_1824 q_55 (by omega) rfl (Nat.le_of_ble_eq_true rfl) (Nat.zero_le _) (Nat.zero_le _) dX12_setup_139 rfl (fun M31 => ?_)
  refine g_aload_n 143 0 hX dX12_setup_142 rfl rfl ?_
  refine g_bipush 145 hX 59 dX12_setup_143 rfl kc_b_59 ?_
  refine g_callV_v 148 hX (k_X12_sign l g N M31 a0 59) lk_X12_sign rfl (ci := 12) rfl (Nat.le_of_ble_eq_true rfl) q_1815 q_53 (by omega) rfl (Nat.le_of_ble_eq_true rfl) (Nat.zero_le _) (Nat.zero_le _) dX12_setup_145 rfl (fun M32 => ?_)
  refine g_goto 103 hX dX12_setup_148 (by decide) ?_
  exact h103 M32 a0
set_option maxRecDepth 100000 in
set_option maxHeartbeats 4000000 in
theorem k_X12_setup_103 {p : Program} {l : Launch} {e : Env} {s : State} {m : MethodId} {args : Array Value} {below : List Frame} {meth : Method} {c : Code} {g : kG} (hX : Cok (p, l, e, { frames := 2 * 7, cells := 0, slots := 0, locals := 60 * 7 }, s, m, args, below, meth, c, cX12_setup, 1, RX12, g, 7)) (hr : meth.sig.returnType = none) (N : Nat) : ∀ (n : Nat) (M : kMem) (a0 : Nat), GG (p, l, e, { frames := 2 * 7, cells := 0, slots := 0, locals := 60 * 7 }, s, m, args, below, meth, c, cX12_setup, 1, RX12, g, 7) (fun b => MQ below (kQ g ((fun r : kMem => (none, r)) b)) args s 0 0 (kZ g.2.2.1)) 0 0 (F_X12_setup_103 N n M a0) 103 [(0, .ref a0)] [] M := by
  intro n
  induction n with
  | zero => intro _ _; exact g_none
  | succ n ih =>
    intro M a0
    unfold F_X12_setup_103
    refine g_aload_n 104 0 hX dX12_setup_103 rfl rfl ?_
    refine g_ldc2 107 hX 2590276 dX12_setup_104 rfl q_1823 ?_
    refine g_callV_ip 110 hX (k_X12_isWord l g N M a0 2590276) lk_X12_isWord rfl (ci := 12) rfl (Nat.le_of_ble_eq_true rfl) q_1798 q_49 (by omega) rfl (Nat.le_of_ble_eq_true rfl) (Nat.zero_le _) (Nat.zero_le _) dX12_setup_107 rfl (fun r17 => ?_)
    refine g_if_eq 151 113 hX dX12_setup_110 (by decide) rfl (fun _ => ?_) (fun _ => ?_)
    · exact k_X12_setup_151 hX hr N N M a0
    · refine g_aload_n 114 0 hX dX12_setup_113 rfl rfl ?_
      refine g_aload_n 115 0 hX dX12_setup_114 rfl rfl ?_
      refine r_X12_7 118 hX dX12_setup_115 rfl ?_
      refine g_bipush 120 hX 7 dX12_setup_118 rfl kc_b_7 ?_
      refine g_iald 121 hX dX12_setup_120 rfl ?_
      refine g_iconst 122 hX 5 dX12_setup_121 rfl kc_i_5 ?_
      refine g_icmp_ge 129 125 hX dX12_setup_122 (by decide) rfl (fun _ => ?_) (fun _ => ?_)
      · refine g_iconst 130 hX 0 dX12_setup_129 rfl kc_i_0 ?_
        exact k_X12_setup_130 hX hr N (fun M a0 => F_X12_setup_103 N n M a0) ih M a0 a0 0
      · refine g_iconst 126 hX 1 dX12_setup_125 rfl kc_i_1 ?_
        refine g_goto 130 hX dX12_setup_126 (by decide) ?_
        exact k_X12_setup_130 hX hr N (fun M a0 => F_X12_setup_103 N n M a0) ih M a0 a0 1
set_option maxRecDepth 100000 in
set_option maxHeartbeats 4000000 in
theorem k_X12_setup (l : Launch) (g : kG) (N : Nat) (M : kMem) (a0 : Nat) : kMet l g yX12_setup cX12_setup 1 none 7 0 0 [.ref a0] M (fun r : kMem => (none, r)) (F_X12_setup N M a0) := by
  refine k_of (lv := [(0, .ref a0)]) RX12 (by decide) rfl rfl (Nat.le_of_ble_eq_true rfl) ?_
  intro p e s m args below meth c hX hr _
  unfold F_X12_setup
  refine g_aload_n 1 0 hX dX12_setup_0 rfl rfl ?_
  refine g_aload_n 2 0 hX dX12_setup_1 rfl rfl ?_
  refine g_ldc2 5 hX 437857460 dX12_setup_2 rfl q_1797 ?_
  refine g_callV_ip 8 hX (k_X12_isWord l g N M a0 437857460) lk_X12_isWord rfl (ci := 12) rfl (Nat.le_of_ble_eq_true rfl) q_1798 q_49 (by omega) rfl (Nat.le_of_ble_eq_true rfl) (Nat.zero_le _) (Nat.zero_le _) dX12_setup_5 rfl (fun r1 => ?_)
  refine g_iconst 9 hX 1 dX12_setup_8 rfl kc_i_1 ?_
  refine g_callV_v 12 hX (k_X12_must l g N M a0 r1 1) lk_X12_must rfl (ci := 12) rfl (Nat.le_of_ble_eq_true rfl) q_1802 q_50 (by omega) rfl (Nat.le_of_ble_eq_true rfl) (Nat.zero_le _) (Nat.zero_le _) dX12_setup_9 rfl (fun M2 => ?_)
  refine g_aload_n 13 0 hX dX12_setup_12 rfl rfl ?_
  refine g_callV_v 16 hX (k_X12_goesOn l g N M2 a0) lk_X12_goesOn rfl (ci := 12) rfl (Nat.le_of_ble_eq_true rfl) q_1806 q_51 (by omega) rfl (Nat.le_of_ble_eq_true rfl) (Nat.zero_le _) (Nat.zero_le _) dX12_setup_13 rfl (fun M3 => ?_)
  refine g_aload_n 17 0 hX dX12_setup_16 rfl rfl ?_
  refine r_X12_7 20 hX dX12_setup_17 rfl ?_
  refine g_iconst 21 hX 0 dX12_setup_20 rfl kc_i_0 ?_
  refine g_aload_n 22 0 hX dX12_setup_21 rfl rfl ?_
  refine g_iconst 23 hX 0 dX12_setup_22 rfl kc_i_0 ?_
  refine g_bipush 25 hX 20 dX12_setup_23 rfl kc_b_20 ?_
  refine g_callV_i 28 hX (k_X12_reads l g N M3 a0 0 20) lk_X12_reads rfl (ci := 12) rfl (Nat.le_of_ble_eq_true rfl) q_1810 q_52 (by omega) rfl (Nat.le_of_ble_eq_true rfl) (Nat.zero_le _) (Nat.zero_le _) dX12_setup_25 rfl (fun r4 => ?_)
  refine g_iast 29 hX dX12_setup_28 rfl ?_
  refine g_klM (fun M5 hM5 => ?_)
  refine g_aload_n 30 0 hX dX12_setup_29 rfl rfl ?_
  refine r_X12_7 33 hX dX12_setup_30 rfl ?_
  refine g_iconst 34 hX 1 dX12_setup_33 rfl kc_i_1 ?_
  refine g_aload_n 35 0 hX dX12_setup_34 rfl rfl ?_
  refine g_iconst 36 hX 0 dX12_setup_35 rfl kc_i_0 ?_
  refine g_bipush 38 hX 99 dX12_setup_36 rfl kc_b_99 ?_
  refine g_callV_i 41 hX (k_X12_reads l g N M5 a0 0 99) lk_X12_reads rfl (ci := 12) rfl (Nat.le_of_ble_eq_true rfl) q_1810 q_52 (by omega) rfl (Nat.le_of_ble_eq_true rfl) (Nat.zero_le _) (Nat.zero_le _) dX12_setup_38 rfl (fun r6 => ?_)
  refine g_iast 42 hX dX12_setup_41 rfl ?_
  refine g_klM (fun M7 hM7 => ?_)
  refine g_aload_n 43 0 hX dX12_setup_42 rfl rfl ?_
  refine r_X12_7 46 hX dX12_setup_43 rfl ?_
  refine g_iconst 47 hX 2 dX12_setup_46 rfl kc_i_2 ?_
  refine g_aload_n 48 0 hX dX12_setup_47 rfl rfl ?_
  refine g_iconst 49 hX 0 dX12_setup_48 rfl kc_i_0 ?_
  refine g_bipush 51 hX 99 dX12_setup_49 rfl kc_b_99 ?_
  refine g_callV_i 54 hX (k_X12_reads l g N M7 a0 0 99) lk_X12_reads rfl (ci := 12) rfl (Nat.le_of_ble_eq_true rfl) q_1810 q_52 (by omega) rfl (Nat.le_of_ble_eq_true rfl) (Nat.zero_le _) (Nat.zero_le _) dX12_setup_51 rfl (fun r8 => ?_)
  refine g_iast 55 hX dX12_setup_54 rfl ?_
  refine g_klM (fun M9 hM9 => ?_)
  refine g_aload_n 56 0 hX dX12_setup_55 rfl rfl ?_
  refine r_X12_7 59 hX dX12_setup_56 rfl ?_
  refine g_iconst 60 hX 3 dX12_setup_59 rfl kc_i_3 ?_
  refine g_aload_n 61 0 hX dX12_setup_60 rfl rfl ?_
  refine g_iconst 62 hX 1 dX12_setup_61 rfl kc_i_1 ?_
  refine g_sipush 65 hX 999 dX12_setup_62 rfl kc_s_999 ?_
  refine g_callV_i 68 hX (k_X12_reads l g N M9 a0 1 999) lk_X12_reads rfl (ci := 12) rfl (Nat.le_of_ble_eq_true rfl) q_1810 q_52 (by omega) rfl (Nat.le_of_ble_eq_true rfl) (Nat.zero_le _) (Nat.zero_le _) dX12_setup_65 rfl (fun r10 => ?_)
  refine g_iast 69 hX dX12_setup_68 rfl ?_
  refine g_klM (fun M11 hM11 => ?_)
  refine g_aload_n 70 0 hX dX12_setup_69 rfl rfl ?_
  refine r_X12_7 73 hX dX12_setup_70 rfl ?_
  refine g_iconst 74 hX 4 dX12_setup_73 rfl kc_i_4 ?_
  refine g_aload_n 75 0 hX dX12_setup_74 rfl rfl ?_
  refine g_iconst 76 hX 0 dX12_setup_75 rfl kc_i_0 ?_
  refine g_sipush 79 hX 999 dX12_setup_76 rfl kc_s_999 ?_
  refine g_callV_i 82 hX (k_X12_reads l g N M11 a0 0 999) lk_X12_reads rfl (ci := 12) rfl (Nat.le_of_ble_eq_true rfl) q_1810 q_52 (by omega) rfl (Nat.le_of_ble_eq_true rfl) (Nat.zero_le _) (Nat.zero_le _) dX12_setup_79 rfl (fun r12 => ?_)
  refine g_iast 83 hX dX12_setup_82 rfl ?_
  refine g_klM (fun M13 hM13 => ?_)
  refine g_aload_n 84 0 hX dX12_setup_83 rfl rfl ?_
  refine r_X12_7 87 hX dX12_setup_84 rfl ?_
  refine g_iconst 88 hX 5 dX12_setup_87 rfl kc_i_5 ?_
  refine g_aload_n 89 0 hX dX12_setup_88 rfl rfl ?_
  refine g_iconst 90 hX 0 dX12_setup_89 rfl kc_i_0 ?_
  refine g_ldcw 93 hX 99999 dX12_setup_90 rfl q_1814 ?_
  refine g_callV_i 96 hX (k_X12_reads l g N M13 a0 0 99999) lk_X12_reads rfl (ci := 12) rfl (Nat.le_of_ble_eq_true rfl) q_1810 q_52 (by omega) rfl (Nat.le_of_ble_eq_true rfl) (Nat.zero_le _) (Nat.zero_le _) dX12_setup_93 rfl (fun r14 => ?_)
  refine g_iast 97 hX dX12_setup_96 rfl ?_
  refine g_klM (fun M15 hM15 => ?_)
  refine g_aload_n 98 0 hX dX12_setup_97 rfl rfl ?_
  refine g_bipush 100 hX 59 dX12_setup_98 rfl kc_b_59 ?_
  refine g_callV_v 103 hX (k_X12_sign l g N M15 a0 59) lk_X12_sign rfl (ci := 12) rfl (Nat.le_of_ble_eq_true rfl) q_1815 q_53 (by omega) rfl (Nat.le_of_ble_eq_true rfl) (Nat.zero_le _) (Nat.zero_le _) dX12_setup_100 rfl (fun M16 => ?_)
  exact k_X12_setup_103 hX hr N N M16 a0
set_option maxRecDepth 100000 in
set_option maxHeartbeats 4000000 in
theorem k_X12_takesText_2 {p : Program} {l : Launch} {e : Env} {s : State} {m : MethodId} {args : Array Value} {below : List Frame} {meth : Method} {c : Code} {g : kG} (hX : Cok (p, l, e, { frames := 2 * 1, cells := 0, slots := 0, locals := 60 * 1 }, s, m, args, below, meth, c, cX12_takesText, 2, RX12, g, 1)) (hr : meth.sig.returnType = none) (N : Nat) : ∀ (n : Nat) (M : kMem) (a0 : Nat) (x1 : Int32), GG (p, l, e, { frames := 2 * 1, cells := 0, slots := 0, locals := 60 * 1 }, s, m, args, below, meth, c, cX12_takesText, 2, RX12, g, 1) (fun b => MQ below (kQ g ((fun r : kMem => (none, r)) b)) args s 0 0 (kZ g.2.2.1)) 0 0 (F_X12_takesText_2 N n M a0 x1) 2 [(0, .ref a0), (1, .int x1)] [] M := by
  intro n
  induction n with
  | zero => intro _ _ _; exact g_none
  | succ n ih =>
    intro M a0 x1
    unfold F_X12_takesText_2
    refine g_iload_n 3 1 hX dX12_takesText_2 rfl rfl ?_
    refine g_aload_n 4 0 hX dX12_takesText_3 rfl rfl ?_
    refine r_X12_155 7 hX dX12_takesText_4 rfl ?_
    refine g_icmp_ge 28 10 hX dX12_takesText_7 (by decide) rfl (fun _ => ?_) (fun _ => ?_)
    · refine g_aload_n 29 0 hX dX12_takesText_28 rfl rfl ?_
      refine g_aload_n 30 0 hX dX12_takesText_29 rfl rfl ?_
      refine r_X12_155 33 hX dX12_takesText_30 rfl ?_
      refine p_X12_168 36 hX dX12_takesText_33 rfl ?_
      refine g_klM (fun M1 hM1 => ?_)
      refine g_aload_n 37 0 hX dX12_takesText_36 rfl rfl ?_
      refine g_iconst 38 hX 0 dX12_takesText_37 rfl kc_i_0 ?_
      refine p_X12_155 41 hX dX12_takesText_38 rfl ?_
      refine g_klM (fun M2 hM2 => ?_)
      exact g_vret hX hr rfl (Nat.le_refl 0) (Nat.le_refl 0) dX12_takesText_41
    · refine g_aload_n 11 0 hX dX12_takesText_10 rfl rfl ?_
      refine r_X12_32 14 hX dX12_takesText_11 rfl ?_
      refine g_iload_n 15 1 hX dX12_takesText_14 rfl rfl ?_
      refine g_aload_n 16 0 hX dX12_takesText_15 rfl rfl ?_
      refine r_X12_29 19 hX dX12_takesText_16 rfl ?_
      refine g_iload_n 20 1 hX dX12_takesText_19 rfl rfl ?_
      refine g_iald 21 hX dX12_takesText_20 rfl ?_
      refine g_iast 22 hX dX12_takesText_21 rfl ?_
      refine g_klM (fun M3 hM3 => ?_)
      refine g_kl (fun v4 hv4 => ?_)
      refine g_iinc 25 1 1 v4 [(1, .int v4), (0, .ref a0)] hX dX12_takesText_22 rfl rfl (by rw [hv4, kc_i_1]) (Nat.le_of_ble_eq_true rfl) rfl ?_
      refine g_goto 2 hX dX12_takesText_25 (by decide) ?_
      refine g_lv [1, 0] rfl ?_
      exact ih M3 a0 v4
set_option maxRecDepth 100000 in
set_option maxHeartbeats 4000000 in
theorem k_X12_takesText (l : Launch) (g : kG) (N : Nat) (M : kMem) (a0 : Nat) : kMet l g yX12_takesText cX12_takesText 2 none 1 0 0 [.ref a0] M (fun r : kMem => (none, r)) (F_X12_takesText N M a0) := by
  refine k_of (lv := [(0, .ref a0)]) RX12 (by decide) rfl rfl (Nat.le_of_ble_eq_true rfl) ?_
  intro p e s m args below meth c hX hr _
  unfold F_X12_takesText
  refine g_iconst 1 hX 0 dX12_takesText_0 rfl kc_i_0 ?_
  refine g_istore_n 2 1 [(1, .int 0), (0, .ref a0)] hX dX12_takesText_1 rfl rfl (Nat.le_of_ble_eq_true rfl) rfl ?_
  refine g_lv [1, 0] rfl ?_
  exact k_X12_takesText_2 hX hr N N M a0 0
set_option maxRecDepth 100000 in
set_option maxHeartbeats 4000000 in
theorem k_X12_tellsError (l : Launch) (g : kG) (N : Nat) (M : kMem) (a0 : Nat) : kMet l g yX12_tellsError cX12_tellsError 1 none 1 0 0 [.ref a0] M (fun r : kMem => (none, r)) (F_X12_tellsError N M a0) := by
  refine k_of (lv := [(0, .ref a0)]) RX12 (by decide) rfl rfl (Nat.le_of_ble_eq_true rfl) ?_
  intro p e s m args below meth c hX hr _
  unfold F_X12_tellsError
  refine g_aload_n 1 0 hX dX12_tellsError_0 rfl rfl ?_
  refine g_aload_n 2 0 hX dX12_tellsError_1 rfl rfl ?_
  refine r_X12_209 5 hX dX12_tellsError_2 rfl ?_
  refine p_X12_276 8 hX dX12_tellsError_5 rfl ?_
  refine g_klM (fun M1 hM1 => ?_)
  refine g_aload_n 9 0 hX dX12_tellsError_8 rfl rfl ?_
  refine g_aload_n 10 0 hX dX12_tellsError_9 rfl rfl ?_
  refine r_X12_209 13 hX dX12_tellsError_10 rfl ?_
  refine g_if_ne 20 16 hX dX12_tellsError_13 (by decide) rfl (fun _ => ?_) (fun _ => ?_)
  · refine g_aload_n 21 0 hX dX12_tellsError_20 rfl rfl ?_
    refine r_X12_212 24 hX dX12_tellsError_21 rfl ?_
    refine p_X12_35 27 hX dX12_tellsError_24 rfl ?_
    refine g_klM (fun M2 hM2 => ?_)
    exact g_vret hX hr rfl (Nat.le_refl 0) (Nat.le_refl 0) dX12_tellsError_27
  · refine g_iconst 17 hX (-1) dX12_tellsError_16 rfl kc_i_m1 ?_
    refine g_goto 24 hX dX12_tellsError_17 (by decide) ?_
    refine p_X12_35 27 hX dX12_tellsError_24 rfl ?_
    refine g_klM (fun M3 hM3 => ?_)
    exact g_vret hX hr rfl (Nat.le_refl 0) (Nat.le_refl 0) dX12_tellsError_27
set_option maxRecDepth 100000 in
set_option maxHeartbeats 4000000 in
theorem k_X12_load_24 {p : Program} {l : Launch} {e : Env} {s : State} {m : MethodId} {args : Array Value} {below : List Frame} {meth : Method} {c : Code} {g : kG} (hX : Cok (p, l, e, { frames := 2 * 8, cells := 0, slots := 0, locals := 60 * 8 }, s, m, args, below, meth, c, cX12_load, 2, RX12, g, 8)) (hr : meth.sig.returnType = (some .int)) (N : Nat) : ∀ (n : Nat) (M : kMem) (a0 : Nat) (x1 : Int32), GG (p, l, e, { frames := 2 * 8, cells := 0, slots := 0, locals := 60 * 8 }, s, m, args, below, meth, c, cX12_load, 2, RX12, g, 8) (fun b => MQ below (kQ g ((fun r : Int32 × kMem => (some (.int r.1), r.2)) b)) args s 0 0 (kZ g.2.2.1)) 0 0 (F_X12_load_24 N n M a0 x1) 24 [(0, .ref a0), (1, .int x1)] [] M := by
  intro n
  induction n with
  | zero => intro _ _ _; exact g_none
  | succ n ih =>
    intro M a0 x1
    unfold F_X12_load_24
    refine g_iload_n 25 1 hX dX12_load_24 rfl rfl ?_
    refine g_sipush 28 hX 293 dX12_load_25 rfl kc_s_293 ?_
    refine g_icmp_ge 44 31 hX dX12_load_28 (by decide) rfl (fun _ => ?_) (fun _ => ?_)
    · refine g_aload_n 45 0 hX dX12_load_44 rfl rfl ?_
      refine g_callV_v 48 hX (k_X12_starts l g N M a0) lk_X12_starts rfl (ci := 12) rfl (Nat.le_of_ble_eq_true rfl) q_1768 q_45 (by omega) rfl (Nat.le_of_ble_eq_true rfl) (Nat.zero_le _) (Nat.zero_le _) dX12_load_45 rfl (fun M4 => ?_)
      refine g_aload_n 49 0 hX dX12_load_48 rfl rfl ?_
      refine g_callV_v 52 hX (k_X12_setup l g N M4 a0) lk_X12_setup rfl (ci := 12) rfl (Nat.le_of_ble_eq_true rfl) q_1793 q_48 (by omega) rfl (Nat.le_of_ble_eq_true rfl) (Nat.zero_le _) (Nat.zero_le _) dX12_load_49 rfl (fun M5 => ?_)
      refine g_aload_n 53 0 hX dX12_load_52 rfl rfl ?_
      refine g_callV_v 56 hX (k_X12_tellsError l g N M5 a0) lk_X12_tellsError rfl (ci := 12) rfl (Nat.le_of_ble_eq_true rfl) q_1875 q_66 (by omega) rfl (Nat.le_of_ble_eq_true rfl) (Nat.zero_le _) (Nat.zero_le _) dX12_load_53 rfl (fun M6 => ?_)
      refine g_aload_n 57 0 hX dX12_load_56 rfl rfl ?_
      refine r_X12_209 60 hX dX12_load_57 rfl ?_
      refine g_if_eq 81 63 hX dX12_load_60 (by decide) rfl (fun _ => ?_) (fun _ => ?_)
      · refine g_aload_n 82 0 hX dX12_load_81 rfl rfl ?_
        refine r_X12_7 85 hX dX12_load_82 rfl ?_
        refine g_bipush 87 hX 9 dX12_load_85 rfl kc_b_9 ?_
        refine g_aload_n 88 0 hX dX12_load_87 rfl rfl ?_
        refine g_callV_ip 91 hX (k_X12_allCoins l g N M6 a0) lk_X12_allCoins rfl (ci := 12) rfl (Nat.le_of_ble_eq_true rfl) q_1631 q_39 (by omega) rfl (Nat.le_of_ble_eq_true rfl) (Nat.zero_le _) (Nat.zero_le _) dX12_load_88 rfl (fun r7 => ?_)
        refine g_iast 92 hX dX12_load_91 rfl ?_
        refine g_klM (fun M8 hM8 => ?_)
        refine g_aload_n 93 0 hX dX12_load_92 rfl rfl ?_
        refine g_iconst 94 hX 0 dX12_load_93 rfl kc_i_0 ?_
        refine p_X12_295 97 hX dX12_load_94 rfl ?_
        refine g_klM (fun M9 hM9 => ?_)
        refine g_aload_n 98 0 hX dX12_load_97 rfl rfl ?_
        refine r_X12_22 101 hX dX12_load_98 rfl ?_
        refine g_iconst 102 hX 0 dX12_load_101 rfl kc_i_0 ?_
        refine g_iconst 103 hX 0 dX12_load_102 rfl kc_i_0 ?_
        refine g_zast 104 hX dX12_load_103 rfl ?_
        refine g_klM (fun M10 hM10 => ?_)
        refine g_aload_n 105 0 hX dX12_load_104 rfl rfl ?_
        refine r_X12_22 108 hX dX12_load_105 rfl ?_
        refine g_iconst 109 hX 1 dX12_load_108 rfl kc_i_1 ?_
        refine g_iconst 110 hX 0 dX12_load_109 rfl kc_i_0 ?_
        refine g_zast 111 hX dX12_load_110 rfl ?_
        refine g_klM (fun M11 hM11 => ?_)
        refine g_iconst 112 hX 0 dX12_load_111 rfl kc_i_0 ?_
        exact g_iret hX hr rfl (Nat.le_refl 0) (Nat.le_refl 0) dX12_load_112
      · refine g_aload_n 64 0 hX dX12_load_63 rfl rfl ?_
        refine r_X12_13 67 hX dX12_load_64 rfl ?_
        refine g_iconst 68 hX 0 dX12_load_67 rfl kc_i_0 ?_
        refine g_aload_n 69 0 hX dX12_load_68 rfl rfl ?_
        refine r_X12_7 72 hX dX12_load_69 rfl ?_
        refine g_iconst 73 hX 0 dX12_load_72 rfl kc_i_0 ?_
        refine g_callS_v 76 hX (k_X12_copies l g N M6 (kR M6 a0 1) 0 (kR M6 a0 0) 0) lk_X12_copies q_1765 (by omega) rfl (Nat.le_of_ble_eq_true rfl) (Nat.zero_le _) (Nat.zero_le _) dX12_load_73 rfl (fun M12 => ?_)
        refine g_aload_n 77 0 hX dX12_load_76 rfl rfl ?_
        refine r_X12_209 80 hX dX12_load_77 rfl ?_
        exact g_iret hX hr rfl (Nat.le_refl 0) (Nat.le_refl 0) dX12_load_80
    · refine g_aload_n 32 0 hX dX12_load_31 rfl rfl ?_
      refine r_X12_7 35 hX dX12_load_32 rfl ?_
      refine g_iload_n 36 1 hX dX12_load_35 rfl rfl ?_
      refine g_iconst 37 hX 0 dX12_load_36 rfl kc_i_0 ?_
      refine g_iast 38 hX dX12_load_37 rfl ?_
      refine g_klM (fun M13 hM13 => ?_)
      refine g_kl (fun v14 hv14 => ?_)
      refine g_iinc 41 1 1 v14 [(1, .int v14), (0, .ref a0)] hX dX12_load_38 rfl rfl (by rw [hv14, kc_i_1]) (Nat.le_of_ble_eq_true rfl) rfl ?_
      refine g_goto 24 hX dX12_load_41 (by decide) ?_
      refine g_lv [1, 0] rfl ?_
      exact ih M13 a0 v14
set_option maxRecDepth 100000 in
set_option maxHeartbeats 4000000 in
theorem k_X12_load (l : Launch) (g : kG) (N : Nat) (M : kMem) (a0 : Nat) : kMet l g yX12_load cX12_load 2 (some .int) 8 0 0 [.ref a0] M (fun r : Int32 × kMem => (some (.int r.1), r.2)) (F_X12_load N M a0) := by
  refine k_of (lv := [(0, .ref a0)]) RX12 (by decide) rfl rfl (Nat.le_of_ble_eq_true rfl) ?_
  intro p e s m args below meth c hX hr _
  unfold F_X12_load
  refine g_aload_n 1 0 hX dX12_load_0 rfl rfl ?_
  refine g_iconst 2 hX 0 dX12_load_1 rfl kc_i_0 ?_
  refine p_X12_63 5 hX dX12_load_2 rfl ?_
  refine g_klM (fun M1 hM1 => ?_)
  refine g_aload_n 6 0 hX dX12_load_5 rfl rfl ?_
  refine g_callV_v 9 hX (k_X12_takesText l g N M1 a0) lk_X12_takesText rfl (ci := 12) rfl (Nat.le_of_ble_eq_true rfl) q_1761 q_44 (by omega) rfl (Nat.le_of_ble_eq_true rfl) (Nat.zero_le _) (Nat.zero_le _) dX12_load_6 rfl (fun M2 => ?_)
  refine g_aload_n 10 0 hX dX12_load_9 rfl rfl ?_
  refine r_X12_7 13 hX dX12_load_10 rfl ?_
  refine g_iconst 14 hX 0 dX12_load_13 rfl kc_i_0 ?_
  refine g_aload_n 15 0 hX dX12_load_14 rfl rfl ?_
  refine r_X12_13 18 hX dX12_load_15 rfl ?_
  refine g_iconst 19 hX 0 dX12_load_18 rfl kc_i_0 ?_
  refine g_callS_v 22 hX (k_X12_copies l g N M2 (kR M2 a0 0) 0 (kR M2 a0 1) 0) lk_X12_copies q_1765 (by omega) rfl (Nat.le_of_ble_eq_true rfl) (Nat.zero_le _) (Nat.zero_le _) dX12_load_19 rfl (fun M3 => ?_)
  refine g_iconst 23 hX 0 dX12_load_22 rfl kc_i_0 ?_
  refine g_istore_n 24 1 [(1, .int 0), (0, .ref a0)] hX dX12_load_23 rfl rfl (Nat.le_of_ble_eq_true rfl) rfl ?_
  refine g_lv [1, 0] rfl ?_
  exact k_X12_load_24 hX hr N N M3 a0 0
set_option maxRecDepth 100000 in
set_option maxHeartbeats 4000000 in
theorem k_X12_isOrder (l : Launch) (g : kG) (N : Nat) (M : kMem) (a0 : Nat) : kMet l g yX12_isOrder cX12_isOrder 1 (some .boolean) 2 0 0 [.ref a0] M (fun r : Int32 => (some (.int r), M)) (F_X12_isOrder N M a0) := by
  refine k_of (lv := [(0, .ref a0)]) RX12 (by decide) rfl rfl (Nat.le_of_ble_eq_true rfl) ?_
  intro p e s m args below meth c hX hr _
  unfold F_X12_isOrder
  refine g_aload_n 1 0 hX dX12_isOrder_0 rfl rfl ?_
  refine g_ldc2 4 hX 343342 dX12_isOrder_1 rfl q_1899 ?_
  refine g_callV_ip 7 hX (k_X12_isWord l g N M a0 343342) lk_X12_isWord rfl (ci := 12) rfl (Nat.le_of_ble_eq_true rfl) q_1798 q_49 (by omega) rfl (Nat.le_of_ble_eq_true rfl) (Nat.zero_le _) (Nat.zero_le _) dX12_isOrder_4 rfl (fun r1 => ?_)
  refine g_if_ne 80 10 hX dX12_isOrder_7 (by decide) rfl (fun _ => ?_) (fun _ => ?_)
  · refine g_iconst 81 hX 1 dX12_isOrder_80 rfl kc_i_1 ?_
    refine g_goto 85 hX dX12_isOrder_81 (by decide) ?_
    exact g_zretL hX hr rfl rfl (Nat.le_refl 0) (Nat.le_refl 0) dX12_isOrder_85
  · refine g_aload_n 11 0 hX dX12_isOrder_10 rfl rfl ?_
    refine g_ldc2 14 hX 2745 dX12_isOrder_11 rfl q_1900 ?_
    refine g_callV_ip 17 hX (k_X12_isWord l g N M a0 2745) lk_X12_isWord rfl (ci := 12) rfl (Nat.le_of_ble_eq_true rfl) q_1798 q_49 (by omega) rfl (Nat.le_of_ble_eq_true rfl) (Nat.zero_le _) (Nat.zero_le _) dX12_isOrder_14 rfl (fun r2 => ?_)
    refine g_if_ne 80 20 hX dX12_isOrder_17 (by decide) rfl (fun _ => ?_) (fun _ => ?_)
    · refine g_iconst 81 hX 1 dX12_isOrder_80 rfl kc_i_1 ?_
      refine g_goto 85 hX dX12_isOrder_81 (by decide) ?_
      exact g_zretL hX hr rfl rfl (Nat.le_refl 0) (Nat.le_refl 0) dX12_isOrder_85
    · refine g_aload_n 21 0 hX dX12_isOrder_20 rfl rfl ?_
      refine g_ldc2 24 hX 12748485 dX12_isOrder_21 rfl q_1901 ?_
      refine g_callV_ip 27 hX (k_X12_isWord l g N M a0 12748485) lk_X12_isWord rfl (ci := 12) rfl (Nat.le_of_ble_eq_true rfl) q_1798 q_49 (by omega) rfl (Nat.le_of_ble_eq_true rfl) (Nat.zero_le _) (Nat.zero_le _) dX12_isOrder_24 rfl (fun r3 => ?_)
      refine g_if_ne 80 30 hX dX12_isOrder_27 (by decide) rfl (fun _ => ?_) (fun _ => ?_)
      · refine g_iconst 81 hX 1 dX12_isOrder_80 rfl kc_i_1 ?_
        refine g_goto 85 hX dX12_isOrder_81 (by decide) ?_
        exact g_zretL hX hr rfl rfl (Nat.le_refl 0) (Nat.le_refl 0) dX12_isOrder_85
      · refine g_aload_n 31 0 hX dX12_isOrder_30 rfl rfl ?_
        refine g_ldc2 34 hX 628108 dX12_isOrder_31 rfl q_1902 ?_
        refine g_callV_ip 37 hX (k_X12_isWord l g N M a0 628108) lk_X12_isWord rfl (ci := 12) rfl (Nat.le_of_ble_eq_true rfl) q_1798 q_49 (by omega) rfl (Nat.le_of_ble_eq_true rfl) (Nat.zero_le _) (Nat.zero_le _) dX12_isOrder_34 rfl (fun r4 => ?_)
        refine g_if_ne 80 40 hX dX12_isOrder_37 (by decide) rfl (fun _ => ?_) (fun _ => ?_)
        · refine g_iconst 81 hX 1 dX12_isOrder_80 rfl kc_i_1 ?_
          refine g_goto 85 hX dX12_isOrder_81 (by decide) ?_
          exact g_zretL hX hr rfl rfl (Nat.le_refl 0) (Nat.le_refl 0) dX12_isOrder_85
        · refine g_aload_n 41 0 hX dX12_isOrder_40 rfl rfl ?_
          refine g_ldc2 44 hX 646192 dX12_isOrder_41 rfl q_1903 ?_
          refine g_callV_ip 47 hX (k_X12_isWord l g N M a0 646192) lk_X12_isWord rfl (ci := 12) rfl (Nat.le_of_ble_eq_true rfl) q_1798 q_49 (by omega) rfl (Nat.le_of_ble_eq_true rfl) (Nat.zero_le _) (Nat.zero_le _) dX12_isOrder_44 rfl (fun r5 => ?_)
          refine g_if_ne 80 50 hX dX12_isOrder_47 (by decide) rfl (fun _ => ?_) (fun _ => ?_)
          · refine g_iconst 81 hX 1 dX12_isOrder_80 rfl kc_i_1 ?_
            refine g_goto 85 hX dX12_isOrder_81 (by decide) ?_
            exact g_zretL hX hr rfl rfl (Nat.le_refl 0) (Nat.le_refl 0) dX12_isOrder_85
          · refine g_aload_n 51 0 hX dX12_isOrder_50 rfl rfl ?_
            refine g_ldc2 54 hX 754917 dX12_isOrder_51 rfl q_1904 ?_
            refine g_callV_ip 57 hX (k_X12_isWord l g N M a0 754917) lk_X12_isWord rfl (ci := 12) rfl (Nat.le_of_ble_eq_true rfl) q_1798 q_49 (by omega) rfl (Nat.le_of_ble_eq_true rfl) (Nat.zero_le _) (Nat.zero_le _) dX12_isOrder_54 rfl (fun r6 => ?_)
            refine g_if_ne 80 60 hX dX12_isOrder_57 (by decide) rfl (fun _ => ?_) (fun _ => ?_)
            · refine g_iconst 81 hX 1 dX12_isOrder_80 rfl kc_i_1 ?_
              refine g_goto 85 hX dX12_isOrder_81 (by decide) ?_
              exact g_zretL hX hr rfl rfl (Nat.le_refl 0) (Nat.le_refl 0) dX12_isOrder_85
            · refine g_aload_n 61 0 hX dX12_isOrder_60 rfl rfl ?_
              refine g_ldc2 64 hX 132915 dX12_isOrder_61 rfl q_1905 ?_
              refine g_callV_ip 67 hX (k_X12_isWord l g N M a0 132915) lk_X12_isWord rfl (ci := 12) rfl (Nat.le_of_ble_eq_true rfl) q_1798 q_49 (by omega) rfl (Nat.le_of_ble_eq_true rfl) (Nat.zero_le _) (Nat.zero_le _) dX12_isOrder_64 rfl (fun r7 => ?_)
              refine g_if_ne 80 70 hX dX12_isOrder_67 (by decide) rfl (fun _ => ?_) (fun _ => ?_)
              · refine g_iconst 81 hX 1 dX12_isOrder_80 rfl kc_i_1 ?_
                refine g_goto 85 hX dX12_isOrder_81 (by decide) ?_
                exact g_zretL hX hr rfl rfl (Nat.le_refl 0) (Nat.le_refl 0) dX12_isOrder_85
              · refine g_aload_n 71 0 hX dX12_isOrder_70 rfl rfl ?_
                refine g_ldc2 74 hX 609752116 dX12_isOrder_71 rfl q_1906 ?_
                refine g_callV_ip 77 hX (k_X12_isWord l g N M a0 609752116) lk_X12_isWord rfl (ci := 12) rfl (Nat.le_of_ble_eq_true rfl) q_1798 q_49 (by omega) rfl (Nat.le_of_ble_eq_true rfl) (Nat.zero_le _) (Nat.zero_le _) dX12_isOrder_74 rfl (fun r8 => ?_)
                refine g_if_eq 84 80 hX dX12_isOrder_77 (by decide) rfl (fun _ => ?_) (fun _ => ?_)
                · refine g_iconst 85 hX 0 dX12_isOrder_84 rfl kc_i_0 ?_
                  exact g_zretL hX hr rfl rfl (Nat.le_refl 0) (Nat.le_refl 0) dX12_isOrder_85
                · refine g_iconst 81 hX 1 dX12_isOrder_80 rfl kc_i_1 ?_
                  refine g_goto 85 hX dX12_isOrder_81 (by decide) ?_
                  exact g_zretL hX hr rfl rfl (Nat.le_refl 0) (Nat.le_refl 0) dX12_isOrder_85
set_option maxRecDepth 100000 in
set_option maxHeartbeats 4000000 in
theorem k_X12_isActive (l : Launch) (g : kG) (N : Nat) (M : kMem) (a0 : Nat) : kMet l g yX12_isActive cX12_isActive 1 (some .boolean) 1 0 0 [.ref a0] M (fun r : Int32 => (some (.int r), M)) (F_X12_isActive N M a0) := by
  refine k_of (lv := [(0, .ref a0)]) RX12 (by decide) rfl rfl (Nat.le_of_ble_eq_true rfl) ?_
  intro p e s m args below meth c hX hr _
  unfold F_X12_isActive
  refine g_aload_n 1 0 hX dX12_isActive_0 rfl rfl ?_
  refine r_X12_314 4 hX dX12_isActive_1 rfl ?_
  refine g_if_eq 25 7 hX dX12_isActive_4 (by decide) rfl (fun _ => ?_) (fun _ => ?_)
  · refine g_iconst 26 hX 0 dX12_isActive_25 rfl kc_i_0 ?_
    exact g_zretL hX hr rfl rfl (Nat.le_refl 0) (Nat.le_refl 0) dX12_isActive_26
  · refine g_aload_n 8 0 hX dX12_isActive_7 rfl rfl ?_
    refine r_X12_209 11 hX dX12_isActive_8 rfl ?_
    refine g_if_ne 25 14 hX dX12_isActive_11 (by decide) rfl (fun _ => ?_) (fun _ => ?_)
    · refine g_iconst 26 hX 0 dX12_isActive_25 rfl kc_i_0 ?_
      exact g_zretL hX hr rfl rfl (Nat.le_refl 0) (Nat.le_refl 0) dX12_isActive_26
    · refine g_aload_n 15 0 hX dX12_isActive_14 rfl rfl ?_
      refine r_X12_318 18 hX dX12_isActive_15 rfl ?_
      refine g_if_ne 25 21 hX dX12_isActive_18 (by decide) rfl (fun _ => ?_) (fun _ => ?_)
      · refine g_iconst 26 hX 0 dX12_isActive_25 rfl kc_i_0 ?_
        exact g_zretL hX hr rfl rfl (Nat.le_refl 0) (Nat.le_refl 0) dX12_isActive_26
      · refine g_iconst 22 hX 1 dX12_isActive_21 rfl kc_i_1 ?_
        refine g_goto 26 hX dX12_isActive_22 (by decide) ?_
        exact g_zretL hX hr rfl rfl (Nat.le_refl 0) (Nat.le_refl 0) dX12_isActive_26
set_option maxRecDepth 100000 in
set_option maxHeartbeats 4000000 in
theorem k_X12_came (l : Launch) (g : kG) (N : Nat) (M : kMem) (a0 : Nat) (x1 : Int32) : kMet l g yX12_came cX12_came 2 none 2 0 0 [.ref a0, .int x1] M (fun r : kMem => (none, r)) (F_X12_came N M a0 x1) := by
  refine k_of (lv := [(0, .ref a0), (1, .int x1)]) RX12 (by decide) rfl rfl (Nat.le_of_ble_eq_true rfl) ?_
  intro p e s m args below meth c hX hr _
  unfold F_X12_came
  refine g_aload_n 1 0 hX dX12_came_0 rfl rfl ?_
  refine g_dup 2 hX dX12_came_1 rfl rfl ?_
  refine r_X12_321 5 hX dX12_came_2 rfl ?_
  refine g_iload_n 6 1 hX dX12_came_5 rfl rfl ?_
  refine g_callS_ip 9 hX (k_X12_flag l g N M x1) lk_X12_flag q_1935 (by omega) rfl (Nat.le_of_ble_eq_true rfl) (Nat.zero_le _) (Nat.zero_le _) dX12_came_6 rfl (fun r1 => ?_)
  refine g_iadd 10 hX dX12_came_9 rfl ?_
  refine p_X12_321 13 hX dX12_came_10 rfl ?_
  refine g_klM (fun M2 hM2 => ?_)
  refine g_aload_n 14 0 hX dX12_came_13 rfl rfl ?_
  refine g_iload_n 15 1 hX dX12_came_14 rfl rfl ?_
  refine g_if_eq 27 18 hX dX12_came_15 (by decide) rfl (fun _ => ?_) (fun _ => ?_)
  · refine g_iconst 28 hX 1 dX12_came_27 rfl kc_i_1 ?_
    refine g_goto 32 hX dX12_came_28 (by decide) ?_
    refine p_X12_318 35 hX dX12_came_32 rfl ?_
    refine g_klM (fun M3 hM3 => ?_)
    exact g_vret hX hr rfl (Nat.le_refl 0) (Nat.le_refl 0) dX12_came_35
  · refine g_aload_n 19 0 hX dX12_came_18 rfl rfl ?_
    refine r_X12_321 22 hX dX12_came_19 rfl ?_
    refine g_bipush 24 hX 40 dX12_came_22 rfl kc_b_40 ?_
    refine g_icmp_ne 31 27 hX dX12_came_24 (by decide) rfl (fun _ => ?_) (fun _ => ?_)
    · refine g_iconst 32 hX 0 dX12_came_31 rfl kc_i_0 ?_
      refine p_X12_318 35 hX dX12_came_32 rfl ?_
      refine g_klM (fun M4 hM4 => ?_)
      exact g_vret hX hr rfl (Nat.le_refl 0) (Nat.le_refl 0) dX12_came_35
    · refine g_iconst 28 hX 1 dX12_came_27 rfl kc_i_1 ?_
      refine g_goto 32 hX dX12_came_28 (by decide) ?_
      refine p_X12_318 35 hX dX12_came_32 rfl ?_
      refine g_klM (fun M5 hM5 => ?_)
      exact g_vret hX hr rfl (Nat.le_refl 0) (Nat.le_refl 0) dX12_came_35
set_option maxRecDepth 100000 in
set_option maxHeartbeats 4000000 in
theorem k_X12_nameText (l : Launch) (g : kG) (N : Nat) (M : kMem) (a0 : Nat) : kMet l g yX12_nameText cX12_nameText 2 (some .int) 5 0 0 [.ref a0] M (fun r : Int32 × kMem => (some (.int r.1), r.2)) (F_X12_nameText N M a0) := by
  refine k_of (lv := [(0, .ref a0)]) RX12 (by decide) rfl rfl (Nat.le_of_ble_eq_true rfl) ?_
  intro p e s m args below meth c hX hr _
  unfold F_X12_nameText
  refine g_aload_n 1 0 hX dX12_nameText_0 rfl rfl ?_
  refine g_aload_n 2 0 hX dX12_nameText_1 rfl rfl ?_
  refine g_callV_ip 5 hX (k_X12_isNameHere l g N M a0) lk_X12_isNameHere rfl (ci := 12) rfl (Nat.le_of_ble_eq_true rfl) q_1837 q_58 (by omega) rfl (Nat.le_of_ble_eq_true rfl) (Nat.zero_le _) (Nat.zero_le _) dX12_nameText_2 rfl (fun r1 => ?_)
  refine g_iconst 6 hX 1 dX12_nameText_5 rfl kc_i_1 ?_
  refine g_callV_v 9 hX (k_X12_must l g N M a0 r1 1) lk_X12_must rfl (ci := 12) rfl (Nat.le_of_ble_eq_true rfl) q_1802 q_50 (by omega) rfl (Nat.le_of_ble_eq_true rfl) (Nat.zero_le _) (Nat.zero_le _) dX12_nameText_6 rfl (fun M2 => ?_)
  refine g_aload_n 10 0 hX dX12_nameText_9 rfl rfl ?_
  refine g_callV_ip 13 hX (k_X12_isGood l g N M2 a0) lk_X12_isGood rfl (ci := 12) rfl (Nat.le_of_ble_eq_true rfl) q_1828 q_56 (by omega) rfl (Nat.le_of_ble_eq_true rfl) (Nat.zero_le _) (Nat.zero_le _) dX12_nameText_10 rfl (fun r3 => ?_)
  refine g_if_eq 24 16 hX dX12_nameText_13 (by decide) rfl (fun _ => ?_) (fun _ => ?_)
  · refine g_iconst 25 hX 0 dX12_nameText_24 rfl kc_i_0 ?_
    refine g_istore_n 26 1 [(1, .int 0), (0, .ref a0)] hX dX12_nameText_25 rfl rfl (Nat.le_of_ble_eq_true rfl) rfl ?_
    refine g_aload_n 27 1 hX dX12_nameText_26 rfl rfl ?_
    refine g_callV_v 30 hX (k_X12_goesOn l g N M2 a0) lk_X12_goesOn rfl (ci := 12) rfl (Nat.le_of_ble_eq_true rfl) q_1806 q_51 (by omega) rfl (Nat.le_of_ble_eq_true rfl) (Nat.zero_le _) (Nat.zero_le _) dX12_nameText_27 rfl (fun M4 => ?_)
    refine g_iload_n 31 0 hX dX12_nameText_30 rfl rfl ?_
    exact g_iret hX hr rfl (Nat.le_refl 0) (Nat.le_refl 0) dX12_nameText_31
  · refine g_aload_n 17 0 hX dX12_nameText_16 rfl rfl ?_
    refine r_X12_194 20 hX dX12_nameText_17 rfl ?_
    refine g_l2i 21 hX dX12_nameText_20 rfl ?_
    refine g_goto 25 hX dX12_nameText_21 (by decide) ?_
    refine g_klI (fun v5 hv5 => ?_)
    refine g_istore_n 26 1 [(1, .int v5), (0, .ref a0)] hX dX12_nameText_25 rfl rfl (Nat.le_of_ble_eq_true rfl) rfl ?_
    refine g_aload_n 27 1 hX dX12_nameText_26 rfl rfl ?_
    refine g_callV_v 30 hX (k_X12_goesOn l g N M2 a0) lk_X12_goesOn rfl (ci := 12) rfl (Nat.le_of_ble_eq_true rfl) q_1806 q_51 (by omega) rfl (Nat.le_of_ble_eq_true rfl) (Nat.zero_le _) (Nat.zero_le _) dX12_nameText_27 rfl (fun M6 => ?_)
    refine g_iload_n 31 0 hX dX12_nameText_30 rfl rfl ?_
    exact g_iret hX hr rfl (Nat.le_refl 0) (Nat.le_refl 0) dX12_nameText_31
set_option maxRecDepth 100000 in
set_option maxHeartbeats 4000000 in
theorem k_X12_otherName (l : Launch) (g : kG) (N : Nat) (M : kMem) (a0 : Nat) (x1 : Int32) : kMet l g yX12_otherName cX12_otherName 2 (some .int) 6 0 0 [.ref a0, .int x1] M (fun r : Int32 × kMem => (some (.int r.1), r.2)) (F_X12_otherName N M a0 x1) := by
  refine k_of (lv := [(0, .ref a0), (1, .int x1)]) RX12 (by decide) rfl rfl (Nat.le_of_ble_eq_true rfl) ?_
  intro p e s m args below meth c hX hr _
  unfold F_X12_otherName
  refine g_aload_n 1 0 hX dX12_otherName_0 rfl rfl ?_
  refine g_aload_n 2 0 hX dX12_otherName_1 rfl rfl ?_
  refine g_callV_ip 5 hX (k_X12_isNameHere l g N M a0) lk_X12_isNameHere rfl (ci := 12) rfl (Nat.le_of_ble_eq_true rfl) q_1837 q_58 (by omega) rfl (Nat.le_of_ble_eq_true rfl) (Nat.zero_le _) (Nat.zero_le _) dX12_otherName_2 rfl (fun r1 => ?_)
  refine g_iconst 6 hX 1 dX12_otherName_5 rfl kc_i_1 ?_
  refine g_callV_v 9 hX (k_X12_must l g N M a0 r1 1) lk_X12_must rfl (ci := 12) rfl (Nat.le_of_ble_eq_true rfl) q_1802 q_50 (by omega) rfl (Nat.le_of_ble_eq_true rfl) (Nat.zero_le _) (Nat.zero_le _) dX12_otherName_6 rfl (fun M2 => ?_)
  refine g_aload_n 10 0 hX dX12_otherName_9 rfl rfl ?_
  refine g_aload_n 11 0 hX dX12_otherName_10 rfl rfl ?_
  refine g_callV_ip 14 hX (k_X12_isGood l g N M2 a0) lk_X12_isGood rfl (ci := 12) rfl (Nat.le_of_ble_eq_true rfl) q_1828 q_56 (by omega) rfl (Nat.le_of_ble_eq_true rfl) (Nat.zero_le _) (Nat.zero_le _) dX12_otherName_11 rfl (fun r3 => ?_)
  refine g_if_eq 26 17 hX dX12_otherName_14 (by decide) rfl (fun _ => ?_) (fun _ => ?_)
  · refine g_iconst 27 hX 1 dX12_otherName_26 rfl kc_i_1 ?_
    refine g_goto 31 hX dX12_otherName_27 (by decide) ?_
    refine g_iconst 32 hX 3 dX12_otherName_31 rfl kc_i_3 ?_
    refine g_callV_v 35 hX (k_X12_must l g N M2 a0 1 3) lk_X12_must rfl (ci := 12) rfl (Nat.le_of_ble_eq_true rfl) q_1802 q_50 (by omega) rfl (Nat.le_of_ble_eq_true rfl) (Nat.zero_le _) (Nat.zero_le _) dX12_otherName_32 rfl (fun M4 => ?_)
    refine g_aload_n 36 0 hX dX12_otherName_35 rfl rfl ?_
    refine g_callV_i 39 hX (k_X12_nameText l g N M4 a0) lk_X12_nameText rfl (ci := 12) rfl (Nat.le_of_ble_eq_true rfl) q_1919 q_74 (by omega) rfl (Nat.le_of_ble_eq_true rfl) (Nat.zero_le _) (Nat.zero_le _) dX12_otherName_36 rfl (fun r5 => ?_)
    exact g_iret hX hr rfl (Nat.le_refl 0) (Nat.le_refl 0) dX12_otherName_39
  · refine g_aload_n 18 0 hX dX12_otherName_17 rfl rfl ?_
    refine r_X12_194 21 hX dX12_otherName_18 rfl ?_
    refine g_l2i 22 hX dX12_otherName_21 rfl ?_
    refine g_iload_n 23 1 hX dX12_otherName_22 rfl rfl ?_
    refine g_icmp_eq 30 26 hX dX12_otherName_23 (by decide) rfl (fun _ => ?_) (fun _ => ?_)
    · refine g_iconst 31 hX 0 dX12_otherName_30 rfl kc_i_0 ?_
      refine g_iconst 32 hX 3 dX12_otherName_31 rfl kc_i_3 ?_
      refine g_callV_v 35 hX (k_X12_must l g N M2 a0 0 3) lk_X12_must rfl (ci := 12) rfl (Nat.le_of_ble_eq_true rfl) q_1802 q_50 (by omega) rfl (Nat.le_of_ble_eq_true rfl) (Nat.zero_le _) (Nat.zero_le _) dX12_otherName_32 rfl (fun M6 => ?_)
      refine g_aload_n 36 0 hX dX12_otherName_35 rfl rfl ?_
      refine g_callV_i 39 hX (k_X12_nameText l g N M6 a0) lk_X12_nameText rfl (ci := 12) rfl (Nat.le_of_ble_eq_true rfl) q_1919 q_74 (by omega) rfl (Nat.le_of_ble_eq_true rfl) (Nat.zero_le _) (Nat.zero_le _) dX12_otherName_36 rfl (fun r7 => ?_)
      exact g_iret hX hr rfl (Nat.le_refl 0) (Nat.le_refl 0) dX12_otherName_39
    · refine g_iconst 27 hX 1 dX12_otherName_26 rfl kc_i_1 ?_
      refine g_goto 31 hX dX12_otherName_27 (by decide) ?_
      refine g_iconst 32 hX 3 dX12_otherName_31 rfl kc_i_3 ?_
      refine g_callV_v 35 hX (k_X12_must l g N M2 a0 1 3) lk_X12_must rfl (ci := 12) rfl (Nat.le_of_ble_eq_true rfl) q_1802 q_50 (by omega) rfl (Nat.le_of_ble_eq_true rfl) (Nat.zero_le _) (Nat.zero_le _) dX12_otherName_32 rfl (fun M8 => ?_)
      refine g_aload_n 36 0 hX dX12_otherName_35 rfl rfl ?_
      refine g_callV_i 39 hX (k_X12_nameText l g N M8 a0) lk_X12_nameText rfl (ci := 12) rfl (Nat.le_of_ble_eq_true rfl) q_1919 q_74 (by omega) rfl (Nat.le_of_ble_eq_true rfl) (Nat.zero_le _) (Nat.zero_le _) dX12_otherName_36 rfl (fun r9 => ?_)
      exact g_iret hX hr rfl (Nat.le_refl 0) (Nat.le_refl 0) dX12_otherName_39
set_option maxRecDepth 100000 in
set_option maxHeartbeats 4000000 in
theorem k_X12_joinText_55 {p : Program} {l : Launch} {e : Env} {s : State} {m : MethodId} {args : Array Value} {below : List Frame} {meth : Method} {c : Code} {g : kG} (hX : Cok (p, l, e, { frames := 2 * 6, cells := 0, slots := 0, locals := 60 * 6 }, s, m, args, below, meth, c, cX12_joinText, 6, RX12, g, 6)) (hr : meth.sig.returnType = none) (N : Nat) : ∀ (M : kMem) (a0 : Nat) (x1 : Int32) (x2 : Int32) (x3 : Int32) (y0 : Int32), GG (p, l, e, { frames := 2 * 6, cells := 0, slots := 0, locals := 60 * 6 }, s, m, args, below, meth, c, cX12_joinText, 6, RX12, g, 6) (fun b => MQ below (kQ g ((fun r : kMem => (none, r)) b)) args s 0 0 (kZ g.2.2.1)) 0 0 (F_X12_joinText_55 N M a0 x1 x2 x3 y0) 55 [(0, .ref a0), (1, .int x1), (2, .int x2), (3, .int x3)] [.int y0] M := by
  intro M a0 x1 x2 x3 y0
  unfold F_X12_joinText_55
  refine g_istore 57 4 [(4, .int y0), (0, .ref a0), (1, .int x1), (2, .int x2), (3, .int x3)] hX dX12_joinText_55 rfl (Nat.le_of_ble_eq_true rfl) rfl ?_
  refine g_iload 59 0 hX dX12_joinText_57 rfl rfl ?_
  refine g_if_eq 72 62 hX dX12_joinText_59 (by decide) rfl (fun _ => ?_) (fun _ => ?_)
  · refine g_iconst 73 hX (-1) dX12_joinText_72 rfl kc_i_m1 ?_
    refine g_istore 75 5 [(5, .int (-1)), (4, .int y0), (0, .ref a0), (1, .int x1), (2, .int x2), (3, .int x3)] hX dX12_joinText_73 rfl (Nat.le_of_ble_eq_true rfl) rfl ?_
    refine g_aload_n 76 2 hX dX12_joinText_75 rfl rfl ?_
    refine g_iload 78 1 hX dX12_joinText_76 rfl rfl ?_
    refine g_callV_v 81 hX (k_X12_came l g N M a0 y0) lk_X12_came rfl (ci := 12) rfl (Nat.le_of_ble_eq_true rfl) q_1931 q_77 (by omega) rfl (Nat.le_of_ble_eq_true rfl) (Nat.zero_le _) (Nat.zero_le _) dX12_joinText_78 rfl (fun M8 => ?_)
    exact g_vret hX hr rfl (Nat.le_refl 0) (Nat.le_refl 0) dX12_joinText_81
  · refine g_aload_n 63 1 hX dX12_joinText_62 rfl rfl ?_
    refine g_iload_n 64 2 hX dX12_joinText_63 rfl rfl ?_
    refine g_iload_n 65 3 hX dX12_joinText_64 rfl rfl ?_
    refine g_iload_n 66 4 hX dX12_joinText_65 rfl rfl ?_
    refine g_callV_i 69 hX (k_X12_joins l g N M a0 x1 x2 x3) lk_X12_joins rfl (ci := 12) rfl (Nat.le_of_ble_eq_true rfl) q_1927 q_76 (by omega) rfl (Nat.le_of_ble_eq_true rfl) (Nat.zero_le _) (Nat.zero_le _) dX12_joinText_66 rfl (fun r9 => ?_)
    refine g_goto 73 hX dX12_joinText_69 (by decide) ?_
    refine g_klI (fun v10 hv10 => ?_)
    refine g_istore 75 5 [(5, .int v10), (4, .int y0), (0, .ref a0), (1, .int x1), (2, .int x2), (3, .int x3)] hX dX12_joinText_73 rfl (Nat.le_of_ble_eq_true rfl) rfl ?_
    refine g_aload_n 76 2 hX dX12_joinText_75 rfl rfl ?_
    refine g_iload 78 1 hX dX12_joinText_76 rfl rfl ?_
    refine g_callV_v 81 hX (k_X12_came l g N r9.2 a0 y0) lk_X12_came rfl (ci := 12) rfl (Nat.le_of_ble_eq_true rfl) q_1931 q_77 (by omega) rfl (Nat.le_of_ble_eq_true rfl) (Nat.zero_le _) (Nat.zero_le _) dX12_joinText_78 rfl (fun M11 => ?_)
    exact g_vret hX hr rfl (Nat.le_refl 0) (Nat.le_refl 0) dX12_joinText_81
set_option maxRecDepth 100000 in
set_option maxHeartbeats 4000000 in
theorem k_X12_joinText_54 {p : Program} {l : Launch} {e : Env} {s : State} {m : MethodId} {args : Array Value} {below : List Frame} {meth : Method} {c : Code} {g : kG} (hX : Cok (p, l, e, { frames := 2 * 6, cells := 0, slots := 0, locals := 60 * 6 }, s, m, args, below, meth, c, cX12_joinText, 6, RX12, g, 6)) (hr : meth.sig.returnType = none) (N : Nat) : ∀ (M : kMem) (a0 : Nat) (x1 : Int32) (x2 : Int32) (x3 : Int32), GG (p, l, e, { frames := 2 * 6, cells := 0, slots := 0, locals := 60 * 6 }, s, m, args, below, meth, c, cX12_joinText, 6, RX12, g, 6) (fun b => MQ below (kQ g ((fun r : kMem => (none, r)) b)) args s 0 0 (kZ g.2.2.1)) 0 0 (F_X12_joinText_54 N M a0 x1 x2 x3) 54 [(0, .ref a0), (1, .int x1), (2, .int x2), (3, .int x3)] [] M := by
  intro M a0 x1 x2 x3
  unfold F_X12_joinText_54
  refine g_iconst 55 hX 0 dX12_joinText_54 rfl kc_i_0 ?_
  exact k_X12_joinText_55 hX hr N M a0 x1 x2 x3 0
set_option maxRecDepth 100000 in
set_option maxHeartbeats 4000000 in
theorem k_X12_joinText (l : Launch) (g : kG) (N : Nat) (M : kMem) (a0 : Nat) : kMet l g yX12_joinText cX12_joinText 6 none 6 0 0 [.ref a0] M (fun r : kMem => (none, r)) (F_X12_joinText N M a0) := by
  refine k_of (lv := [(0, .ref a0)]) RX12 (by decide) rfl rfl (Nat.le_of_ble_eq_true rfl) ?_
  intro p e s m args below meth c hX hr _
  unfold F_X12_joinText
  refine g_aload_n 1 0 hX dX12_joinText_0 rfl rfl ?_
  refine g_callV_i 4 hX (k_X12_nameText l g N M a0) lk_X12_nameText rfl (ci := 12) rfl (Nat.le_of_ble_eq_true rfl) q_1919 q_74 (by omega) rfl (Nat.le_of_ble_eq_true rfl) (Nat.zero_le _) (Nat.zero_le _) dX12_joinText_1 rfl (fun r1 => ?_)
  refine g_klI (fun v2 hv2 => ?_)
  refine g_istore_n 5 1 [(1, .int v2), (0, .ref a0)] hX dX12_joinText_4 rfl rfl (Nat.le_of_ble_eq_true rfl) rfl ?_
  refine g_aload_n 6 1 hX dX12_joinText_5 rfl rfl ?_
  refine g_iconst 7 hX 1 dX12_joinText_6 rfl kc_i_1 ?_
  refine g_bipush 9 hX 99 dX12_joinText_7 rfl kc_b_99 ?_
  refine g_callV_i 12 hX (k_X12_reads l g N r1.2 a0 1 99) lk_X12_reads rfl (ci := 12) rfl (Nat.le_of_ble_eq_true rfl) q_1810 q_52 (by omega) rfl (Nat.le_of_ble_eq_true rfl) (Nat.zero_le _) (Nat.zero_le _) dX12_joinText_9 rfl (fun r3 => ?_)
  refine g_klI (fun v4 hv4 => ?_)
  refine g_istore_n 13 2 [(2, .int v4), (1, .int v2), (0, .ref a0)] hX dX12_joinText_12 rfl rfl (Nat.le_of_ble_eq_true rfl) rfl ?_
  refine g_aload_n 14 2 hX dX12_joinText_13 rfl rfl ?_
  refine g_iconst 15 hX 0 dX12_joinText_14 rfl kc_i_0 ?_
  refine g_sipush 18 hX 9999 dX12_joinText_15 rfl kc_s_9999 ?_
  refine g_callV_i 21 hX (k_X12_reads l g N r3.2 a0 0 9999) lk_X12_reads rfl (ci := 12) rfl (Nat.le_of_ble_eq_true rfl) q_1810 q_52 (by omega) rfl (Nat.le_of_ble_eq_true rfl) (Nat.zero_le _) (Nat.zero_le _) dX12_joinText_18 rfl (fun r5 => ?_)
  refine g_klI (fun v6 hv6 => ?_)
  refine g_istore_n 22 3 [(3, .int v6), (2, .int v4), (1, .int v2), (0, .ref a0)] hX dX12_joinText_21 rfl rfl (Nat.le_of_ble_eq_true rfl) rfl ?_
  refine g_aload_n 23 3 hX dX12_joinText_22 rfl rfl ?_
  refine g_callV_ip 26 hX (k_X12_isActive l g N r5.2 a0) lk_X12_isActive rfl (ci := 12) rfl (Nat.le_of_ble_eq_true rfl) q_1923 q_75 (by omega) rfl (Nat.le_of_ble_eq_true rfl) (Nat.zero_le _) (Nat.zero_le _) dX12_joinText_23 rfl (fun r7 => ?_)
  refine g_if_eq 81 29 hX dX12_joinText_26 (by decide) rfl (fun _ => ?_) (fun _ => ?_)
  · exact g_vret hX hr rfl (Nat.le_refl 0) (Nat.le_refl 0) dX12_joinText_81
  · refine g_aload_n 30 3 hX dX12_joinText_29 rfl rfl ?_
    refine r_X12_7 33 hX dX12_joinText_30 rfl ?_
    refine g_bipush 35 hX 8 dX12_joinText_33 rfl kc_b_8 ?_
    refine g_iald 36 hX dX12_joinText_35 rfl ?_
    refine g_bipush 38 hX 24 dX12_joinText_36 rfl kc_b_24 ?_
    refine g_icmp_ge 54 41 hX dX12_joinText_38 (by decide) rfl (fun _ => ?_) (fun _ => ?_)
    · refine g_lv [3, 2, 1, 0] rfl ?_
      exact k_X12_joinText_54 hX hr N r5.2 a0 v2 v4 v6
    · refine g_aload_n 42 3 hX dX12_joinText_41 rfl rfl ?_
      refine g_iload_n 43 2 hX dX12_joinText_42 rfl rfl ?_
      refine g_callV_ip 46 hX (k_X12_traderNamed l g N r5.2 a0 v2) lk_X12_traderNamed rfl (ci := 12) rfl (Nat.le_of_ble_eq_true rfl) q_1845 q_60 (by omega) rfl (Nat.le_of_ble_eq_true rfl) (Nat.zero_le _) (Nat.zero_le _) dX12_joinText_43 rfl (fun r12 => ?_)
      refine g_iconst 47 hX (-1) dX12_joinText_46 rfl kc_i_m1 ?_
      refine g_icmp_ne 54 50 hX dX12_joinText_47 (by decide) rfl (fun _ => ?_) (fun _ => ?_)
      · refine g_lv [3, 2, 1, 0] rfl ?_
        exact k_X12_joinText_54 hX hr N r5.2 a0 v2 v4 v6
      · refine g_iconst 51 hX 1 dX12_joinText_50 rfl kc_i_1 ?_
        refine g_goto 55 hX dX12_joinText_51 (by decide) ?_
        refine g_lv [3, 2, 1, 0] rfl ?_
        exact k_X12_joinText_55 hX hr N r5.2 a0 v2 v4 v6 1
set_option maxRecDepth 100000 in
set_option maxHeartbeats 4000000 in
theorem k_X12_buyText_76 {p : Program} {l : Launch} {e : Env} {s : State} {m : MethodId} {args : Array Value} {below : List Frame} {meth : Method} {c : Code} {g : kG} (hX : Cok (p, l, e, { frames := 2 * 8, cells := 0, slots := 0, locals := 60 * 8 }, s, m, args, below, meth, c, cX12_buyText, 6, RX12, g, 8)) (hr : meth.sig.returnType = none) (N : Nat) : ∀ (M : kMem) (a0 : Nat) (x1 : Int32) (x2 : Int32) (x3 : Int32) (y0 : Int32), GG (p, l, e, { frames := 2 * 8, cells := 0, slots := 0, locals := 60 * 8 }, s, m, args, below, meth, c, cX12_buyText, 6, RX12, g, 8) (fun b => MQ below (kQ g ((fun r : kMem => (none, r)) b)) args s 0 0 (kZ g.2.2.1)) 0 0 (F_X12_buyText_76 N M a0 x1 x2 x3 y0) 76 [(0, .ref a0), (1, .int x1), (2, .int x2), (3, .int x3)] [.int y0] M := by
  intro M a0 x1 x2 x3 y0
  unfold F_X12_buyText_76
  refine g_istore 78 4 [(4, .int y0), (0, .ref a0), (1, .int x1), (2, .int x2), (3, .int x3)] hX dX12_buyText_76 rfl (Nat.le_of_ble_eq_true rfl) rfl ?_
  refine g_iload 80 0 hX dX12_buyText_78 rfl rfl ?_
  refine g_if_eq 93 83 hX dX12_buyText_80 (by decide) rfl (fun _ => ?_) (fun _ => ?_)
  · refine g_iconst 94 hX 0 dX12_buyText_93 rfl kc_i_0 ?_
    refine g_istore 96 5 [(5, .int 0), (4, .int y0), (0, .ref a0), (1, .int x1), (2, .int x2), (3, .int x3)] hX dX12_buyText_94 rfl (Nat.le_of_ble_eq_true rfl) rfl ?_
    refine g_aload_n 97 2 hX dX12_buyText_96 rfl rfl ?_
    refine g_iload 99 1 hX dX12_buyText_97 rfl rfl ?_
    refine g_callV_v 102 hX (k_X12_came l g N M a0 y0) lk_X12_came rfl (ci := 12) rfl (Nat.le_of_ble_eq_true rfl) q_1931 q_77 (by omega) rfl (Nat.le_of_ble_eq_true rfl) (Nat.zero_le _) (Nat.zero_le _) dX12_buyText_99 rfl (fun M9 => ?_)
    exact g_vret hX hr rfl (Nat.le_refl 0) (Nat.le_refl 0) dX12_buyText_102
  · refine g_aload_n 84 1 hX dX12_buyText_83 rfl rfl ?_
    refine g_iload_n 85 2 hX dX12_buyText_84 rfl rfl ?_
    refine g_iload_n 86 3 hX dX12_buyText_85 rfl rfl ?_
    refine g_iload_n 87 4 hX dX12_buyText_86 rfl rfl ?_
    refine g_callV_i 90 hX (k_X12_buys l g N M a0 x1 x2 x3) lk_X12_buys rfl (ci := 12) rfl (Nat.le_of_ble_eq_true rfl) q_1980 q_87 (by omega) rfl (Nat.le_of_ble_eq_true rfl) (Nat.zero_le _) (Nat.zero_le _) dX12_buyText_87 rfl (fun r10 => ?_)
    refine g_goto 94 hX dX12_buyText_90 (by decide) ?_
    refine g_klI (fun v11 hv11 => ?_)
    refine g_istore 96 5 [(5, .int v11), (4, .int y0), (0, .ref a0), (1, .int x1), (2, .int x2), (3, .int x3)] hX dX12_buyText_94 rfl (Nat.le_of_ble_eq_true rfl) rfl ?_
    refine g_aload_n 97 2 hX dX12_buyText_96 rfl rfl ?_
    refine g_iload 99 1 hX dX12_buyText_97 rfl rfl ?_
    refine g_callV_v 102 hX (k_X12_came l g N r10.2 a0 y0) lk_X12_came rfl (ci := 12) rfl (Nat.le_of_ble_eq_true rfl) q_1931 q_77 (by omega) rfl (Nat.le_of_ble_eq_true rfl) (Nat.zero_le _) (Nat.zero_le _) dX12_buyText_99 rfl (fun M12 => ?_)
    exact g_vret hX hr rfl (Nat.le_refl 0) (Nat.le_refl 0) dX12_buyText_102
set_option maxRecDepth 100000 in
set_option maxHeartbeats 4000000 in
theorem k_X12_buyText_75 {p : Program} {l : Launch} {e : Env} {s : State} {m : MethodId} {args : Array Value} {below : List Frame} {meth : Method} {c : Code} {g : kG} (hX : Cok (p, l, e, { frames := 2 * 8, cells := 0, slots := 0, locals := 60 * 8 }, s, m, args, below, meth, c, cX12_buyText, 6, RX12, g, 8)) (hr : meth.sig.returnType = none) (N : Nat) : ∀ (M : kMem) (a0 : Nat) (x1 : Int32) (x2 : Int32) (x3 : Int32), GG (p, l, e, { frames := 2 * 8, cells := 0, slots := 0, locals := 60 * 8 }, s, m, args, below, meth, c, cX12_buyText, 6, RX12, g, 8) (fun b => MQ below (kQ g ((fun r : kMem => (none, r)) b)) args s 0 0 (kZ g.2.2.1)) 0 0 (F_X12_buyText_75 N M a0 x1 x2 x3) 75 [(0, .ref a0), (1, .int x1), (2, .int x2), (3, .int x3)] [] M := by
  intro M a0 x1 x2 x3
  unfold F_X12_buyText_75
  refine g_iconst 76 hX 0 dX12_buyText_75 rfl kc_i_0 ?_
  exact k_X12_buyText_76 hX hr N M a0 x1 x2 x3 0
set_option maxRecDepth 100000 in
set_option maxHeartbeats 4000000 in
theorem k_X12_buyText (l : Launch) (g : kG) (N : Nat) (M : kMem) (a0 : Nat) : kMet l g yX12_buyText cX12_buyText 6 none 8 0 0 [.ref a0] M (fun r : kMem => (none, r)) (F_X12_buyText N M a0) := by
  refine k_of (lv := [(0, .ref a0)]) RX12 (by decide) rfl rfl (Nat.le_of_ble_eq_true rfl) ?_
  intro p e s m args below meth c hX hr _
  unfold F_X12_buyText
  refine g_aload_n 1 0 hX dX12_buyText_0 rfl rfl ?_
  refine g_aload_n 2 0 hX dX12_buyText_1 rfl rfl ?_
  refine g_callV_i 5 hX (k_X12_nameText l g N M a0) lk_X12_nameText rfl (ci := 12) rfl (Nat.le_of_ble_eq_true rfl) q_1919 q_74 (by omega) rfl (Nat.le_of_ble_eq_true rfl) (Nat.zero_le _) (Nat.zero_le _) dX12_buyText_2 rfl (fun r1 => ?_)
  refine g_callV_ip 8 hX (k_X12_traderNamed l g N r1.2 a0 r1.1) lk_X12_traderNamed rfl (ci := 12) rfl (Nat.le_of_ble_eq_true rfl) q_1845 q_60 (by omega) rfl (Nat.le_of_ble_eq_true rfl) (Nat.zero_le _) (Nat.zero_le _) dX12_buyText_5 rfl (fun r2 => ?_)
  refine g_istore_n 9 1 [(1, .int r2), (0, .ref a0)] hX dX12_buyText_8 rfl rfl (Nat.le_of_ble_eq_true rfl) rfl ?_
  refine g_aload_n 10 1 hX dX12_buyText_9 rfl rfl ?_
  refine g_iconst 11 hX 0 dX12_buyText_10 rfl kc_i_0 ?_
  refine g_iconst 12 hX 4 dX12_buyText_11 rfl kc_i_4 ?_
  refine g_callV_i 15 hX (k_X12_reads l g N r1.2 a0 0 4) lk_X12_reads rfl (ci := 12) rfl (Nat.le_of_ble_eq_true rfl) q_1810 q_52 (by omega) rfl (Nat.le_of_ble_eq_true rfl) (Nat.zero_le _) (Nat.zero_le _) dX12_buyText_12 rfl (fun r3 => ?_)
  refine g_klI (fun v4 hv4 => ?_)
  refine g_istore_n 16 2 [(2, .int v4), (1, .int r2), (0, .ref a0)] hX dX12_buyText_15 rfl rfl (Nat.le_of_ble_eq_true rfl) rfl ?_
  refine g_aload_n 17 2 hX dX12_buyText_16 rfl rfl ?_
  refine g_callV_i 20 hX (k_X12_sideText l g N r3.2 a0) lk_X12_sideText rfl (ci := 12) rfl (Nat.le_of_ble_eq_true rfl) q_1861 q_63 (by omega) rfl (Nat.le_of_ble_eq_true rfl) (Nat.zero_le _) (Nat.zero_le _) dX12_buyText_17 rfl (fun r5 => ?_)
  refine g_aload_n 21 2 hX dX12_buyText_20 rfl rfl ?_
  refine g_iconst 22 hX 1 dX12_buyText_21 rfl kc_i_1 ?_
  refine g_bipush 24 hX 6 dX12_buyText_22 rfl kc_b_6 ?_
  refine g_callV_i 27 hX (k_X12_reads l g N r5.2 a0 1 6) lk_X12_reads rfl (ci := 12) rfl (Nat.le_of_ble_eq_true rfl) q_1810 q_52 (by omega) rfl (Nat.le_of_ble_eq_true rfl) (Nat.zero_le _) (Nat.zero_le _) dX12_buyText_24 rfl (fun r6 => ?_)
  refine g_imul 28 hX dX12_buyText_27 rfl ?_
  refine g_klI (fun v7 hv7 => ?_)
  refine g_istore_n 29 3 [(3, .int v7), (2, .int v4), (1, .int r2), (0, .ref a0)] hX dX12_buyText_28 rfl rfl (Nat.le_of_ble_eq_true rfl) rfl ?_
  refine g_aload_n 30 3 hX dX12_buyText_29 rfl rfl ?_
  refine g_callV_ip 33 hX (k_X12_isActive l g N r6.2 a0) lk_X12_isActive rfl (ci := 12) rfl (Nat.le_of_ble_eq_true rfl) q_1923 q_75 (by omega) rfl (Nat.le_of_ble_eq_true rfl) (Nat.zero_le _) (Nat.zero_le _) dX12_buyText_30 rfl (fun r8 => ?_)
  refine g_if_eq 102 36 hX dX12_buyText_33 (by decide) rfl (fun _ => ?_) (fun _ => ?_)
  · exact g_vret hX hr rfl (Nat.le_refl 0) (Nat.le_refl 0) dX12_buyText_102
  · refine g_iload_n 37 2 hX dX12_buyText_36 rfl rfl ?_
    refine g_iconst 38 hX (-1) dX12_buyText_37 rfl kc_i_m1 ?_
    refine g_icmp_eq 75 41 hX dX12_buyText_38 (by decide) rfl (fun _ => ?_) (fun _ => ?_)
    · refine g_lv [3, 2, 1, 0] rfl ?_
      exact k_X12_buyText_75 hX hr N r6.2 a0 r2 v4 v7
    · refine g_iload_n 42 1 hX dX12_buyText_41 rfl rfl ?_
      refine g_aload_n 43 3 hX dX12_buyText_42 rfl rfl ?_
      refine r_X12_7 46 hX dX12_buyText_43 rfl ?_
      refine g_bipush 48 hX 7 dX12_buyText_46 rfl kc_b_7 ?_
      refine g_iald 49 hX dX12_buyText_48 rfl ?_
      refine g_icmp_ge 75 52 hX dX12_buyText_49 (by decide) rfl (fun _ => ?_) (fun _ => ?_)
      · refine g_lv [3, 2, 1, 0] rfl ?_
        exact k_X12_buyText_75 hX hr N r6.2 a0 r2 v4 v7
      · refine g_aload_n 53 3 hX dX12_buyText_52 rfl rfl ?_
        refine g_iload_n 54 1 hX dX12_buyText_53 rfl rfl ?_
        refine g_iload_n 55 0 hX dX12_buyText_54 rfl rfl ?_
        refine g_callV_ip 58 hX (k_X12_isPosition l g N r6.2 a0 v4 v7) lk_X12_isPosition rfl (ci := 12) rfl (Nat.le_of_ble_eq_true rfl) q_1942 q_79 (by omega) rfl (Nat.le_of_ble_eq_true rfl) (Nat.zero_le _) (Nat.zero_le _) dX12_buyText_55 rfl (fun r13 => ?_)
        refine g_if_eq 75 61 hX dX12_buyText_58 (by decide) rfl (fun _ => ?_) (fun _ => ?_)
        · refine g_lv [3, 2, 1, 0] rfl ?_
          exact k_X12_buyText_75 hX hr N r6.2 a0 r2 v4 v7
        · refine g_aload_n 62 3 hX dX12_buyText_61 rfl rfl ?_
          refine g_iload_n 63 2 hX dX12_buyText_62 rfl rfl ?_
          refine g_iload_n 64 1 hX dX12_buyText_63 rfl rfl ?_
          refine g_iload_n 65 0 hX dX12_buyText_64 rfl rfl ?_
          refine g_callV_ip 68 hX (k_X12_againstSeat l g N r6.2 a0 r2 v4 v7) lk_X12_againstSeat rfl (ci := 12) rfl (Nat.le_of_ble_eq_true rfl) q_1946 q_80 (by omega) rfl (Nat.le_of_ble_eq_true rfl) (Nat.zero_le _) (Nat.zero_le _) dX12_buyText_65 rfl (fun r14 => ?_)
          refine g_if_ne 75 71 hX dX12_buyText_68 (by decide) rfl (fun _ => ?_) (fun _ => ?_)
          · refine g_lv [3, 2, 1, 0] rfl ?_
            exact k_X12_buyText_75 hX hr N r6.2 a0 r2 v4 v7
          · refine g_iconst 72 hX 1 dX12_buyText_71 rfl kc_i_1 ?_
            refine g_goto 76 hX dX12_buyText_72 (by decide) ?_
            refine g_lv [3, 2, 1, 0] rfl ?_
            exact k_X12_buyText_76 hX hr N r6.2 a0 r2 v4 v7 1
