set_option maxRecDepth 100000 in
set_option maxHeartbeats 4000000 in
theorem k_X12_thrown (l : Launch) (g : kG) (N : Nat) (M : kMem) (a0 : Nat) : kMet l g yX12_thrown cX12_thrown 1 (some .int) 1 0 0 [.ref a0] M (fun r : Int32 => (some (.int r), M)) (F_X12_thrown N M a0) := by
  refine k_of (lv := [(0, .ref a0)]) RX12 (by decide) rfl rfl (Nat.le_of_ble_eq_true rfl) ?_
  intro p e s m args below meth c hX hr _
  unfold F_X12_thrown
  refine g_aload_n 1 0 hX dX12_thrown_0 rfl rfl ?_
  refine r_X12_63 4 hX dX12_thrown_1 rfl ?_
  exact g_iret hX hr rfl (Nat.le_refl 0) (Nat.le_refl 0) dX12_thrown_4
set_option maxRecDepth 100000 in
set_option maxHeartbeats 4000000 in
theorem k_X12_in (l : Launch) (g : kG) (N : Nat) (M : kMem) (x0 : Int64) (x2 : Int64) (x4 : Int64) : kMet l g yX12_in cX12_in 6 (some .boolean) 1 0 0 [.long x0, .long x2, .long x4] M (fun r : Int32 => (some (.int r), M)) (F_X12_in N M x0 x2 x4) := by
  refine k_of (lv := [(0, .long x0), (2, .long x2), (4, .long x4)]) RX12 (by decide) rfl rfl (Nat.le_of_ble_eq_true rfl) ?_
  intro p e s m args below meth c hX hr _
  unfold F_X12_in
  refine g_lload_n 1 0 hX dX12_in_0 rfl rfl ?_
  refine g_lload_n 2 1 hX dX12_in_1 rfl rfl ?_
  refine g_lcmp 3 hX dX12_in_2 rfl ?_
  refine g_if_lt 17 6 hX dX12_in_3 (by decide) rfl (fun _ => ?_) (fun _ => ?_)
  · refine g_iconst 18 hX 0 dX12_in_17 rfl kc_i_0 ?_
    exact g_zretL hX hr rfl rfl (Nat.le_refl 0) (Nat.le_refl 0) dX12_in_18
  · refine g_lload_n 7 0 hX dX12_in_6 rfl rfl ?_
    refine g_lload 9 2 hX dX12_in_7 rfl rfl ?_
    refine g_lcmp 10 hX dX12_in_9 rfl ?_
    refine g_if_gt 17 13 hX dX12_in_10 (by decide) rfl (fun _ => ?_) (fun _ => ?_)
    · refine g_iconst 18 hX 0 dX12_in_17 rfl kc_i_0 ?_
      exact g_zretL hX hr rfl rfl (Nat.le_refl 0) (Nat.le_refl 0) dX12_in_18
    · refine g_iconst 14 hX 1 dX12_in_13 rfl kc_i_1 ?_
      refine g_goto 18 hX dX12_in_14 (by decide) ?_
      exact g_zretL hX hr rfl rfl (Nat.le_refl 0) (Nat.le_refl 0) dX12_in_18
set_option maxRecDepth 100000 in
set_option maxHeartbeats 4000000 in
theorem k_X12_flag (l : Launch) (g : kG) (N : Nat) (M : kMem) (x0 : Int32) : kMet l g yX12_flag cX12_flag 1 (some .int) 1 0 0 [.int x0] M (fun r : Int32 => (some (.int r), M)) (F_X12_flag N M x0) := by
  refine k_of (lv := [(0, .int x0)]) RX12 (by decide) rfl rfl (Nat.le_of_ble_eq_true rfl) ?_
  intro p e s m args below meth c hX hr _
  unfold F_X12_flag
  refine g_iload_n 1 0 hX dX12_flag_0 rfl rfl ?_
  refine g_if_eq 8 4 hX dX12_flag_1 (by decide) rfl (fun _ => ?_) (fun _ => ?_)
  · refine g_iconst 9 hX 0 dX12_flag_8 rfl kc_i_0 ?_
    exact g_iret hX hr rfl (Nat.le_refl 0) (Nat.le_refl 0) dX12_flag_9
  · refine g_iconst 5 hX 1 dX12_flag_4 rfl kc_i_1 ?_
    refine g_goto 9 hX dX12_flag_5 (by decide) ?_
    exact g_iret hX hr rfl (Nat.le_refl 0) (Nat.le_refl 0) dX12_flag_9
set_option maxRecDepth 100000 in
set_option maxHeartbeats 4000000 in
theorem k_X12_bare (l : Launch) (g : kG) (N : Nat) (M : kMem) (x0 : Int32) : kMet l g yX12_bare cX12_bare 1 (some .int) 1 0 0 [.int x0] M (fun r : Int32 => (some (.int r), M)) (F_X12_bare N M x0) := by
  refine k_of (lv := [(0, .int x0)]) RX12 (by decide) rfl rfl (Nat.le_of_ble_eq_true rfl) ?_
  intro p e s m args below meth c hX hr _
  unfold F_X12_bare
  refine g_iload_n 1 0 hX dX12_bare_0 rfl rfl ?_
  refine g_if_ge 9 4 hX dX12_bare_1 (by decide) rfl (fun _ => ?_) (fun _ => ?_)
  · refine g_iload_n 10 0 hX dX12_bare_9 rfl rfl ?_
    exact g_iret hX hr rfl (Nat.le_refl 0) (Nat.le_refl 0) dX12_bare_10
  · refine g_iload_n 5 0 hX dX12_bare_4 rfl rfl ?_
    refine g_ineg 6 hX dX12_bare_5 rfl ?_
    refine g_goto 10 hX dX12_bare_6 (by decide) ?_
    exact g_iret hX hr rfl (Nat.le_refl 0) (Nat.le_refl 0) dX12_bare_10
set_option maxRecDepth 100000 in
set_option maxHeartbeats 4000000 in
theorem k_X12_lesser (l : Launch) (g : kG) (N : Nat) (M : kMem) (x0 : Int32) (x1 : Int32) : kMet l g yX12_lesser cX12_lesser 2 (some .int) 1 0 0 [.int x0, .int x1] M (fun r : Int32 => (some (.int r), M)) (F_X12_lesser N M x0 x1) := by
  refine k_of (lv := [(0, .int x0), (1, .int x1)]) RX12 (by decide) rfl rfl (Nat.le_of_ble_eq_true rfl) ?_
  intro p e s m args below meth c hX hr _
  unfold F_X12_lesser
  refine g_iload_n 1 0 hX dX12_lesser_0 rfl rfl ?_
  refine g_iload_n 2 1 hX dX12_lesser_1 rfl rfl ?_
  refine g_icmp_ge 9 5 hX dX12_lesser_2 (by decide) rfl (fun _ => ?_) (fun _ => ?_)
  · refine g_iload_n 10 1 hX dX12_lesser_9 rfl rfl ?_
    exact g_iret hX hr rfl (Nat.le_refl 0) (Nat.le_refl 0) dX12_lesser_10
  · refine g_iload_n 6 0 hX dX12_lesser_5 rfl rfl ?_
    refine g_goto 10 hX dX12_lesser_6 (by decide) ?_
    exact g_iret hX hr rfl (Nat.le_refl 0) (Nat.le_refl 0) dX12_lesser_10
set_option maxRecDepth 100000 in
set_option maxHeartbeats 4000000 in
theorem k_X12_greater (l : Launch) (g : kG) (N : Nat) (M : kMem) (x0 : Int32) (x1 : Int32) : kMet l g yX12_greater cX12_greater 2 (some .int) 1 0 0 [.int x0, .int x1] M (fun r : Int32 => (some (.int r), M)) (F_X12_greater N M x0 x1) := by
  refine k_of (lv := [(0, .int x0), (1, .int x1)]) RX12 (by decide) rfl rfl (Nat.le_of_ble_eq_true rfl) ?_
  intro p e s m args below meth c hX hr _
  unfold F_X12_greater
  refine g_iload_n 1 0 hX dX12_greater_0 rfl rfl ?_
  refine g_iload_n 2 1 hX dX12_greater_1 rfl rfl ?_
  refine g_icmp_le 9 5 hX dX12_greater_2 (by decide) rfl (fun _ => ?_) (fun _ => ?_)
  · refine g_iload_n 10 1 hX dX12_greater_9 rfl rfl ?_
    exact g_iret hX hr rfl (Nat.le_refl 0) (Nat.le_refl 0) dX12_greater_10
  · refine g_iload_n 6 0 hX dX12_greater_5 rfl rfl ?_
    refine g_goto 10 hX dX12_greater_6 (by decide) ?_
    exact g_iret hX hr rfl (Nat.le_refl 0) (Nat.le_refl 0) dX12_greater_10
set_option maxRecDepth 100000 in
set_option maxHeartbeats 4000000 in
theorem k_X12_stops (l : Launch) (g : kG) (N : Nat) (M : kMem) (a0 : Nat) (x1 : Int32) (x2 : Int32) : kMet l g yX12_stops cX12_stops 3 (some .boolean) 1 0 0 [.ref a0, .int x1, .int x2] M (fun r : Int32 × kMem => (some (.int r.1), r.2)) (F_X12_stops N M a0 x1 x2) := by
  refine k_of (lv := [(0, .ref a0), (1, .int x1), (2, .int x2)]) RX12 (by decide) rfl rfl (Nat.le_of_ble_eq_true rfl) ?_
  intro p e s m args below meth c hX hr _
  unfold F_X12_stops
  refine g_aload_n 1 0 hX dX12_stops_0 rfl rfl ?_
  refine r_X12_63 4 hX dX12_stops_1 rfl ?_
  refine g_if_ne 16 7 hX dX12_stops_4 (by decide) rfl (fun _ => ?_) (fun _ => ?_)
  · refine g_aload_n 17 0 hX dX12_stops_16 rfl rfl ?_
    refine r_X12_63 20 hX dX12_stops_17 rfl ?_
    refine g_if_eq 27 23 hX dX12_stops_20 (by decide) rfl (fun _ => ?_) (fun _ => ?_)
    · refine g_iconst 28 hX 0 dX12_stops_27 rfl kc_i_0 ?_
      exact g_zretL hX hr rfl rfl (Nat.le_refl 0) (Nat.le_refl 0) dX12_stops_28
    · refine g_iconst 24 hX 1 dX12_stops_23 rfl kc_i_1 ?_
      refine g_goto 28 hX dX12_stops_24 (by decide) ?_
      exact g_zretL hX hr rfl rfl (Nat.le_refl 0) (Nat.le_refl 0) dX12_stops_28
  · refine g_iload_n 8 1 hX dX12_stops_7 rfl rfl ?_
    refine g_if_eq 16 11 hX dX12_stops_8 (by decide) rfl (fun _ => ?_) (fun _ => ?_)
    · refine g_aload_n 17 0 hX dX12_stops_16 rfl rfl ?_
      refine r_X12_63 20 hX dX12_stops_17 rfl ?_
      refine g_if_eq 27 23 hX dX12_stops_20 (by decide) rfl (fun _ => ?_) (fun _ => ?_)
      · refine g_iconst 28 hX 0 dX12_stops_27 rfl kc_i_0 ?_
        exact g_zretL hX hr rfl rfl (Nat.le_refl 0) (Nat.le_refl 0) dX12_stops_28
      · refine g_iconst 24 hX 1 dX12_stops_23 rfl kc_i_1 ?_
        refine g_goto 28 hX dX12_stops_24 (by decide) ?_
        exact g_zretL hX hr rfl rfl (Nat.le_refl 0) (Nat.le_refl 0) dX12_stops_28
    · refine g_aload_n 12 0 hX dX12_stops_11 rfl rfl ?_
      refine g_iload_n 13 2 hX dX12_stops_12 rfl rfl ?_
      refine p_X12_63 16 hX dX12_stops_13 rfl ?_
      refine g_klM (fun M1 hM1 => ?_)
      refine g_aload_n 17 0 hX dX12_stops_16 rfl rfl ?_
      refine r_X12_63 20 hX dX12_stops_17 rfl ?_
      refine g_if_eq 27 23 hX dX12_stops_20 (by decide) rfl (fun _ => ?_) (fun _ => ?_)
      · refine g_iconst 28 hX 0 dX12_stops_27 rfl kc_i_0 ?_
        exact g_zretL hX hr rfl rfl (Nat.le_refl 0) (Nat.le_refl 0) dX12_stops_28
      · refine g_iconst 24 hX 1 dX12_stops_23 rfl kc_i_1 ?_
        refine g_goto 28 hX dX12_stops_24 (by decide) ?_
        exact g_zretL hX hr rfl rfl (Nat.le_refl 0) (Nat.le_refl 0) dX12_stops_28
set_option maxRecDepth 100000 in
set_option maxHeartbeats 4000000 in
theorem k_X12_copies_3 {p : Program} {l : Launch} {e : Env} {s : State} {m : MethodId} {args : Array Value} {below : List Frame} {meth : Method} {c : Code} {g : kG} (hX : Cok (p, l, e, { frames := 2 * 1, cells := 0, slots := 0, locals := 60 * 1 }, s, m, args, below, meth, c, cX12_copies, 5, RX12, g, 1)) (hr : meth.sig.returnType = none) (N : Nat) : ∀ (n : Nat) (M : kMem) (a0 : Nat) (x1 : Int32) (a2 : Nat) (x3 : Int32) (x4 : Int32), GG (p, l, e, { frames := 2 * 1, cells := 0, slots := 0, locals := 60 * 1 }, s, m, args, below, meth, c, cX12_copies, 5, RX12, g, 1) (fun b => MQ below (kQ g ((fun r : kMem => (none, r)) b)) args s 0 0 (kZ g.2.2.1)) 0 0 (F_X12_copies_3 N n M a0 x1 a2 x3 x4) 3 [(0, .ref a0), (1, .int x1), (2, .ref a2), (3, .int x3), (4, .int x4)] [] M := by
  intro n
  induction n with
  | zero => intro _ _ _ _ _ _; exact g_none
  | succ n ih =>
    intro M a0 x1 a2 x3 x4
    unfold F_X12_copies_3
    refine g_iload 5 4 hX dX12_copies_3 rfl rfl ?_
    refine g_sipush 8 hX 293 dX12_copies_5 rfl kc_s_293 ?_
    refine g_icmp_ge 29 11 hX dX12_copies_8 (by decide) rfl (fun _ => ?_) (fun _ => ?_)
    · exact g_vret hX hr rfl (Nat.le_refl 0) (Nat.le_refl 0) dX12_copies_29
    · refine g_aload_n 12 2 hX dX12_copies_11 rfl rfl ?_
      refine g_iload_n 13 3 hX dX12_copies_12 rfl rfl ?_
      refine g_iload 15 4 hX dX12_copies_13 rfl rfl ?_
      refine g_iadd 16 hX dX12_copies_15 rfl ?_
      refine g_aload_n 17 0 hX dX12_copies_16 rfl rfl ?_
      refine g_iload_n 18 1 hX dX12_copies_17 rfl rfl ?_
      refine g_iload 20 4 hX dX12_copies_18 rfl rfl ?_
      refine g_iadd 21 hX dX12_copies_20 rfl ?_
      refine g_iald 22 hX dX12_copies_21 rfl ?_
      refine g_iast 23 hX dX12_copies_22 rfl ?_
      refine g_klM (fun M1 hM1 => ?_)
      refine g_kl (fun v2 hv2 => ?_)
      refine g_iinc 26 4 4 v2 [(4, .int v2), (0, .ref a0), (1, .int x1), (2, .ref a2), (3, .int x3)] hX dX12_copies_23 rfl rfl (by rw [hv2, kc_i_1]) (Nat.le_of_ble_eq_true rfl) rfl ?_
      refine g_goto 3 hX dX12_copies_26 (by decide) ?_
      refine g_lv [1, 2, 3, 4, 0] rfl ?_
      exact ih M1 a0 x1 a2 x3 v2
set_option maxRecDepth 100000 in
set_option maxHeartbeats 4000000 in
theorem k_X12_copies (l : Launch) (g : kG) (N : Nat) (M : kMem) (a0 : Nat) (x1 : Int32) (a2 : Nat) (x3 : Int32) : kMet l g yX12_copies cX12_copies 5 none 1 0 0 [.ref a0, .int x1, .ref a2, .int x3] M (fun r : kMem => (none, r)) (F_X12_copies N M a0 x1 a2 x3) := by
  refine k_of (lv := [(0, .ref a0), (1, .int x1), (2, .ref a2), (3, .int x3)]) RX12 (by decide) rfl rfl (Nat.le_of_ble_eq_true rfl) ?_
  intro p e s m args below meth c hX hr _
  unfold F_X12_copies
  refine g_iconst 1 hX 0 dX12_copies_0 rfl kc_i_0 ?_
  refine g_istore 3 4 [(4, .int 0), (0, .ref a0), (1, .int x1), (2, .ref a2), (3, .int x3)] hX dX12_copies_1 rfl (Nat.le_of_ble_eq_true rfl) rfl ?_
  refine g_lv [1, 2, 3, 4, 0] rfl ?_
  exact k_X12_copies_3 hX hr N N M a0 x1 a2 x3 0
set_option maxRecDepth 100000 in
set_option maxHeartbeats 4000000 in
theorem k_X12_atBoard (l : Launch) (g : kG) (N : Nat) (M : kMem) (x0 : Int32) (x1 : Int32) : kMet l g yX12_atBoard cX12_atBoard 2 (some .int) 1 0 0 [.int x0, .int x1] M (fun r : Int32 => (some (.int r), M)) (F_X12_atBoard N M x0 x1) := by
  refine k_of (lv := [(0, .int x0), (1, .int x1)]) RX12 (by decide) rfl rfl (Nat.le_of_ble_eq_true rfl) ?_
  intro p e s m args below meth c hX hr _
  unfold F_X12_atBoard
  refine g_bipush 2 hX 14 dX12_atBoard_0 rfl kc_b_14 ?_
  refine g_bipush 4 hX 15 dX12_atBoard_2 rfl kc_b_15 ?_
  refine g_iload_n 5 0 hX dX12_atBoard_4 rfl rfl ?_
  refine g_imul 6 hX dX12_atBoard_5 rfl ?_
  refine g_iadd 7 hX dX12_atBoard_6 rfl ?_
  refine g_iload_n 8 1 hX dX12_atBoard_7 rfl rfl ?_
  refine g_iadd 9 hX dX12_atBoard_8 rfl ?_
  exact g_iret hX hr rfl (Nat.le_refl 0) (Nat.le_refl 0) dX12_atBoard_9
set_option maxRecDepth 100000 in
set_option maxHeartbeats 4000000 in
theorem k_X12_atTrader (l : Launch) (g : kG) (N : Nat) (M : kMem) (x0 : Int32) (x1 : Int32) : kMet l g yX12_atTrader cX12_atTrader 2 (some .int) 1 0 0 [.int x0, .int x1] M (fun r : Int32 => (some (.int r), M)) (F_X12_atTrader N M x0 x1) := by
  refine k_of (lv := [(0, .int x0), (1, .int x1)]) RX12 (by decide) rfl rfl (Nat.le_of_ble_eq_true rfl) ?_
  intro p e s m args below meth c hX hr _
  unfold F_X12_atTrader
  refine g_bipush 2 hX 89 dX12_atTrader_0 rfl kc_b_89 ?_
  refine g_bipush 4 hX 7 dX12_atTrader_2 rfl kc_b_7 ?_
  refine g_iload_n 5 0 hX dX12_atTrader_4 rfl rfl ?_
  refine g_imul 6 hX dX12_atTrader_5 rfl ?_
  refine g_iadd 7 hX dX12_atTrader_6 rfl ?_
  refine g_iload_n 8 1 hX dX12_atTrader_7 rfl rfl ?_
  refine g_iadd 9 hX dX12_atTrader_8 rfl ?_
  exact g_iret hX hr rfl (Nat.le_refl 0) (Nat.le_refl 0) dX12_atTrader_9
set_option maxRecDepth 100000 in
set_option maxHeartbeats 4000000 in
theorem k_X12_atSeat (l : Launch) (g : kG) (N : Nat) (M : kMem) (x0 : Int32) (x1 : Int32) : kMet l g yX12_atSeat cX12_atSeat 2 (some .int) 2 0 0 [.int x0, .int x1] M (fun r : Int32 => (some (.int r), M)) (F_X12_atSeat N M x0 x1) := by
  refine k_of (lv := [(0, .int x0), (1, .int x1)]) RX12 (by decide) rfl rfl (Nat.le_of_ble_eq_true rfl) ?_
  intro p e s m args below meth c hX hr _
  unfold F_X12_atSeat
  refine g_iload_n 1 0 hX dX12_atSeat_0 rfl rfl ?_
  refine g_iconst 2 hX 3 dX12_atSeat_1 rfl kc_i_3 ?_
  refine g_iload_n 3 1 hX dX12_atSeat_2 rfl rfl ?_
  refine g_iadd 4 hX dX12_atSeat_3 rfl ?_
  refine g_iload_n 5 1 hX dX12_atSeat_4 rfl rfl ?_
  refine g_if_ge 13 8 hX dX12_atSeat_5 (by decide) rfl (fun _ => ?_) (fun _ => ?_)
  · refine g_iconst 14 hX 5 dX12_atSeat_13 rfl kc_i_5 ?_
    refine g_iadd 15 hX dX12_atSeat_14 rfl ?_
    refine g_callS_ip 18 hX (k_X12_atBoard l g N M x0 ((3 + x1) + 5)) lk_X12_atBoard q_1614 (by omega) rfl (Nat.le_of_ble_eq_true rfl) (Nat.zero_le _) (Nat.zero_le _) dX12_atSeat_15 rfl (fun r1 => ?_)
    exact g_iret hX hr rfl (Nat.le_refl 0) (Nat.le_refl 0) dX12_atSeat_18
  · refine g_bipush 10 hX 6 dX12_atSeat_8 rfl kc_b_6 ?_
    refine g_goto 14 hX dX12_atSeat_10 (by decide) ?_
    refine g_iadd 15 hX dX12_atSeat_14 rfl ?_
    refine g_callS_ip 18 hX (k_X12_atBoard l g N M x0 ((3 + x1) + 6)) lk_X12_atBoard q_1614 (by omega) rfl (Nat.le_of_ble_eq_true rfl) (Nat.zero_le _) (Nat.zero_le _) dX12_atSeat_15 rfl (fun r2 => ?_)
    exact g_iret hX hr rfl (Nat.le_refl 0) (Nat.le_refl 0) dX12_atSeat_18
set_option maxRecDepth 100000 in
set_option maxHeartbeats 4000000 in
theorem k_X12_ofBoard (l : Launch) (g : kG) (N : Nat) (M : kMem) (a0 : Nat) (x1 : Int32) (x2 : Int32) : kMet l g yX12_ofBoard cX12_ofBoard 3 (some .int) 2 0 0 [.ref a0, .int x1, .int x2] M (fun r : Int32 => (some (.int r), M)) (F_X12_ofBoard N M a0 x1 x2) := by
  refine k_of (lv := [(0, .ref a0), (1, .int x1), (2, .int x2)]) RX12 (by decide) rfl rfl (Nat.le_of_ble_eq_true rfl) ?_
  intro p e s m args below meth c hX hr _
  unfold F_X12_ofBoard
  refine g_aload_n 1 0 hX dX12_ofBoard_0 rfl rfl ?_
  refine r_X12_7 4 hX dX12_ofBoard_1 rfl ?_
  refine g_iload_n 5 1 hX dX12_ofBoard_4 rfl rfl ?_
  refine g_iload_n 6 2 hX dX12_ofBoard_5 rfl rfl ?_
  refine g_callS_ip 9 hX (k_X12_atBoard l g N M x1 x2) lk_X12_atBoard q_1614 (by omega) rfl (Nat.le_of_ble_eq_true rfl) (Nat.zero_le _) (Nat.zero_le _) dX12_ofBoard_6 rfl (fun r1 => ?_)
  refine g_iald 10 hX dX12_ofBoard_9 rfl ?_
  exact g_iret hX hr rfl (Nat.le_refl 0) (Nat.le_refl 0) dX12_ofBoard_10
set_option maxRecDepth 100000 in
set_option maxHeartbeats 4000000 in
theorem k_X12_has (l : Launch) (g : kG) (N : Nat) (M : kMem) (a0 : Nat) (x1 : Int32) (x2 : Int32) : kMet l g yX12_has cX12_has 3 (some .int) 2 0 0 [.ref a0, .int x1, .int x2] M (fun r : Int32 => (some (.int r), M)) (F_X12_has N M a0 x1 x2) := by
  refine k_of (lv := [(0, .ref a0), (1, .int x1), (2, .int x2)]) RX12 (by decide) rfl rfl (Nat.le_of_ble_eq_true rfl) ?_
  intro p e s m args below meth c hX hr _
  unfold F_X12_has
  refine g_aload_n 1 0 hX dX12_has_0 rfl rfl ?_
  refine r_X12_7 4 hX dX12_has_1 rfl ?_
  refine g_iload_n 5 1 hX dX12_has_4 rfl rfl ?_
  refine g_iload_n 6 2 hX dX12_has_5 rfl rfl ?_
  refine g_callS_ip 9 hX (k_X12_atTrader l g N M x1 x2) lk_X12_atTrader q_1621 (by omega) rfl (Nat.le_of_ble_eq_true rfl) (Nat.zero_le _) (Nat.zero_le _) dX12_has_6 rfl (fun r1 => ?_)
  refine g_iald 10 hX dX12_has_9 rfl ?_
  exact g_iret hX hr rfl (Nat.le_refl 0) (Nat.le_refl 0) dX12_has_10
set_option maxRecDepth 100000 in
set_option maxHeartbeats 4000000 in
theorem k_X12_onSeat (l : Launch) (g : kG) (N : Nat) (M : kMem) (a0 : Nat) (x1 : Int32) (x2 : Int32) : kMet l g yX12_onSeat cX12_onSeat 3 (some .int) 3 0 0 [.ref a0, .int x1, .int x2] M (fun r : Int32 => (some (.int r), M)) (F_X12_onSeat N M a0 x1 x2) := by
  refine k_of (lv := [(0, .ref a0), (1, .int x1), (2, .int x2)]) RX12 (by decide) rfl rfl (Nat.le_of_ble_eq_true rfl) ?_
  intro p e s m args below meth c hX hr _
  unfold F_X12_onSeat
  refine g_aload_n 1 0 hX dX12_onSeat_0 rfl rfl ?_
  refine r_X12_7 4 hX dX12_onSeat_1 rfl ?_
  refine g_iload_n 5 1 hX dX12_onSeat_4 rfl rfl ?_
  refine g_iload_n 6 2 hX dX12_onSeat_5 rfl rfl ?_
  refine g_callS_ip 9 hX (k_X12_atSeat l g N M x1 x2) lk_X12_atSeat q_1628 (by omega) rfl (Nat.le_of_ble_eq_true rfl) (Nat.zero_le _) (Nat.zero_le _) dX12_onSeat_6 rfl (fun r1 => ?_)
  refine g_iald 10 hX dX12_onSeat_9 rfl ?_
  refine g_iconst 11 hX 1 dX12_onSeat_10 rfl kc_i_1 ?_
  refine g_isub 12 hX dX12_onSeat_11 rfl ?_
  exact g_iret hX hr rfl (Nat.le_refl 0) (Nat.le_refl 0) dX12_onSeat_12
set_option maxRecDepth 100000 in
set_option maxHeartbeats 4000000 in
theorem k_X12_isSeated (l : Launch) (g : kG) (N : Nat) (M : kMem) (a0 : Nat) (x1 : Int32) : kMet l g yX12_isSeated cX12_isSeated 2 (some .boolean) 3 0 0 [.ref a0, .int x1] M (fun r : Int32 => (some (.int r), M)) (F_X12_isSeated N M a0 x1) := by
  refine k_of (lv := [(0, .ref a0), (1, .int x1)]) RX12 (by decide) rfl rfl (Nat.le_of_ble_eq_true rfl) ?_
  intro p e s m args below meth c hX hr _
  unfold F_X12_isSeated
  refine g_aload_n 1 0 hX dX12_isSeated_0 rfl rfl ?_
  refine g_iload_n 2 1 hX dX12_isSeated_1 rfl rfl ?_
  refine g_iconst 3 hX 5 dX12_isSeated_2 rfl kc_i_5 ?_
  refine g_callV_ip 6 hX (k_X12_has l g N M a0 x1 5) lk_X12_has rfl (ci := 12) rfl (Nat.le_of_ble_eq_true rfl) q_1635 q_40 (by omega) rfl (Nat.le_of_ble_eq_true rfl) (Nat.zero_le _) (Nat.zero_le _) dX12_isSeated_3 rfl (fun r1 => ?_)
  refine g_iconst 7 hX (-1) dX12_isSeated_6 rfl kc_i_m1 ?_
  refine g_icmp_eq 14 10 hX dX12_isSeated_7 (by decide) rfl (fun _ => ?_) (fun _ => ?_)
  · refine g_iconst 15 hX 0 dX12_isSeated_14 rfl kc_i_0 ?_
    exact g_zretL hX hr rfl rfl (Nat.le_refl 0) (Nat.le_refl 0) dX12_isSeated_15
  · refine g_iconst 11 hX 1 dX12_isSeated_10 rfl kc_i_1 ?_
    refine g_goto 15 hX dX12_isSeated_11 (by decide) ?_
    exact g_zretL hX hr rfl rfl (Nat.le_refl 0) (Nat.le_refl 0) dX12_isSeated_15
set_option maxRecDepth 100000 in
set_option maxHeartbeats 4000000 in
theorem k_X12_builds (l : Launch) (g : kG) (N : Nat) (M : kMem) (a0 : Nat) (x1 : Int32) (x2 : Int32) (x3 : Int32) : kMet l g yX12_builds cX12_builds 5 none 2 0 0 [.ref a0, .int x1, .int x2, .int x3] M (fun r : kMem => (none, r)) (F_X12_builds N M a0 x1 x2 x3) := by
  refine k_of (lv := [(0, .ref a0), (1, .int x1), (2, .int x2), (3, .int x3)]) RX12 (by decide) rfl rfl (Nat.le_of_ble_eq_true rfl) ?_
  intro p e s m args below meth c hX hr _
  unfold F_X12_builds
  refine g_aload_n 1 0 hX dX12_builds_0 rfl rfl ?_
  refine r_X12_7 4 hX dX12_builds_1 rfl ?_
  refine g_bipush 6 hX 7 dX12_builds_4 rfl kc_b_7 ?_
  refine g_iald 7 hX dX12_builds_6 rfl ?_
  refine g_klI (fun v1 hv1 => ?_)
  refine g_istore 9 4 [(4, .int v1), (0, .ref a0), (1, .int x1), (2, .int x2), (3, .int x3)] hX dX12_builds_7 rfl (Nat.le_of_ble_eq_true rfl) rfl ?_
  refine g_aload_n 10 1 hX dX12_builds_9 rfl rfl ?_
  refine r_X12_7 13 hX dX12_builds_10 rfl ?_
  refine g_bipush 15 hX 7 dX12_builds_13 rfl kc_b_7 ?_
  refine g_dup2 16 hX dX12_builds_15 rfl rfl rfl ?_
  refine g_iald 17 hX dX12_builds_16 rfl ?_
  refine g_iconst 18 hX 1 dX12_builds_17 rfl kc_i_1 ?_
  refine g_iadd 19 hX dX12_builds_18 rfl ?_
  refine g_iast 20 hX dX12_builds_19 rfl ?_
  refine g_klM (fun M2 hM2 => ?_)
  refine g_aload_n 21 1 hX dX12_builds_20 rfl rfl ?_
  refine r_X12_7 24 hX dX12_builds_21 rfl ?_
  refine g_iload 26 0 hX dX12_builds_24 rfl rfl ?_
  refine g_iconst 27 hX 0 dX12_builds_26 rfl kc_i_0 ?_
  refine g_callS_ip 30 hX (k_X12_atBoard l g N M2 v1 0) lk_X12_atBoard q_1614 (by omega) rfl (Nat.le_of_ble_eq_true rfl) (Nat.zero_le _) (Nat.zero_le _) dX12_builds_27 rfl (fun r3 => ?_)
  refine g_iload_n 31 2 hX dX12_builds_30 rfl rfl ?_
  refine g_iast 32 hX dX12_builds_31 rfl ?_
  refine g_klM (fun M4 hM4 => ?_)
  refine g_aload_n 33 1 hX dX12_builds_32 rfl rfl ?_
  refine r_X12_7 36 hX dX12_builds_33 rfl ?_
  refine g_iload 38 0 hX dX12_builds_36 rfl rfl ?_
  refine g_iconst 39 hX 1 dX12_builds_38 rfl kc_i_1 ?_
  refine g_callS_ip 42 hX (k_X12_atBoard l g N M4 v1 1) lk_X12_atBoard q_1614 (by omega) rfl (Nat.le_of_ble_eq_true rfl) (Nat.zero_le _) (Nat.zero_le _) dX12_builds_39 rfl (fun r5 => ?_)
  refine g_iload_n 43 3 hX dX12_builds_42 rfl rfl ?_
  refine g_iast 44 hX dX12_builds_43 rfl ?_
  refine g_klM (fun M6 hM6 => ?_)
  refine g_aload_n 45 1 hX dX12_builds_44 rfl rfl ?_
  refine r_X12_7 48 hX dX12_builds_45 rfl ?_
  refine g_iload 50 0 hX dX12_builds_48 rfl rfl ?_
  refine g_iconst 51 hX 2 dX12_builds_50 rfl kc_i_2 ?_
  refine g_callS_ip 54 hX (k_X12_atBoard l g N M6 v1 2) lk_X12_atBoard q_1614 (by omega) rfl (Nat.le_of_ble_eq_true rfl) (Nat.zero_le _) (Nat.zero_le _) dX12_builds_51 rfl (fun r7 => ?_)
  refine g_iload_n 55 4 hX dX12_builds_54 rfl rfl ?_
  refine g_iast 56 hX dX12_builds_55 rfl ?_
  refine g_klM (fun M8 hM8 => ?_)
  exact g_vret hX hr rfl (Nat.le_refl 0) (Nat.le_refl 0) dX12_builds_56
set_option maxRecDepth 100000 in
set_option maxHeartbeats 4000000 in
theorem k_X12_appears (l : Launch) (g : kG) (N : Nat) (M : kMem) (a0 : Nat) (x1 : Int32) (x2 : Int32) (x3 : Int32) (x4 : Int32) : kMet l g yX12_appears cX12_appears 6 none 2 0 0 [.ref a0, .int x1, .int x2, .int x3, .int x4] M (fun r : kMem => (none, r)) (F_X12_appears N M a0 x1 x2 x3 x4) := by
  refine k_of (lv := [(0, .ref a0), (1, .int x1), (2, .int x2), (3, .int x3), (4, .int x4)]) RX12 (by decide) rfl rfl (Nat.le_of_ble_eq_true rfl) ?_
  intro p e s m args below meth c hX hr _
  unfold F_X12_appears
  refine g_aload_n 1 0 hX dX12_appears_0 rfl rfl ?_
  refine r_X12_7 4 hX dX12_appears_1 rfl ?_
  refine g_bipush 6 hX 8 dX12_appears_4 rfl kc_b_8 ?_
  refine g_iald 7 hX dX12_appears_6 rfl ?_
  refine g_klI (fun v1 hv1 => ?_)
  refine g_istore 9 5 [(5, .int v1), (0, .ref a0), (1, .int x1), (2, .int x2), (3, .int x3), (4, .int x4)] hX dX12_appears_7 rfl (Nat.le_of_ble_eq_true rfl) rfl ?_
  refine g_aload_n 10 1 hX dX12_appears_9 rfl rfl ?_
  refine r_X12_7 13 hX dX12_appears_10 rfl ?_
  refine g_bipush 15 hX 8 dX12_appears_13 rfl kc_b_8 ?_
  refine g_dup2 16 hX dX12_appears_15 rfl rfl rfl ?_
  refine g_iald 17 hX dX12_appears_16 rfl ?_
  refine g_iconst 18 hX 1 dX12_appears_17 rfl kc_i_1 ?_
  refine g_iadd 19 hX dX12_appears_18 rfl ?_
  refine g_iast 20 hX dX12_appears_19 rfl ?_
  refine g_klM (fun M2 hM2 => ?_)
  refine g_aload_n 21 1 hX dX12_appears_20 rfl rfl ?_
  refine r_X12_7 24 hX dX12_appears_21 rfl ?_
  refine g_iload 26 0 hX dX12_appears_24 rfl rfl ?_
  refine g_iconst 27 hX 0 dX12_appears_26 rfl kc_i_0 ?_
  refine g_callS_ip 30 hX (k_X12_atTrader l g N M2 v1 0) lk_X12_atTrader q_1621 (by omega) rfl (Nat.le_of_ble_eq_true rfl) (Nat.zero_le _) (Nat.zero_le _) dX12_appears_27 rfl (fun r3 => ?_)
  refine g_iload_n 31 2 hX dX12_appears_30 rfl rfl ?_
  refine g_iast 32 hX dX12_appears_31 rfl ?_
  refine g_klM (fun M4 hM4 => ?_)
  refine g_aload_n 33 1 hX dX12_appears_32 rfl rfl ?_
  refine r_X12_7 36 hX dX12_appears_33 rfl ?_
  refine g_iload 38 0 hX dX12_appears_36 rfl rfl ?_
  refine g_iconst 39 hX 1 dX12_appears_38 rfl kc_i_1 ?_
  refine g_callS_ip 42 hX (k_X12_atTrader l g N M4 v1 1) lk_X12_atTrader q_1621 (by omega) rfl (Nat.le_of_ble_eq_true rfl) (Nat.zero_le _) (Nat.zero_le _) dX12_appears_39 rfl (fun r5 => ?_)
  refine g_iload_n 43 3 hX dX12_appears_42 rfl rfl ?_
  refine g_iast 44 hX dX12_appears_43 rfl ?_
  refine g_klM (fun M6 hM6 => ?_)
  refine g_aload_n 45 1 hX dX12_appears_44 rfl rfl ?_
  refine r_X12_7 48 hX dX12_appears_45 rfl ?_
  refine g_iload 50 0 hX dX12_appears_48 rfl rfl ?_
  refine g_iconst 51 hX 2 dX12_appears_50 rfl kc_i_2 ?_
  refine g_callS_ip 54 hX (k_X12_atTrader l g N M6 v1 2) lk_X12_atTrader q_1621 (by omega) rfl (Nat.le_of_ble_eq_true rfl) (Nat.zero_le _) (Nat.zero_le _) dX12_appears_51 rfl (fun r7 => ?_)
  refine g_iload_n 55 4 hX dX12_appears_54 rfl rfl ?_
  refine g_iast 56 hX dX12_appears_55 rfl ?_
  refine g_klM (fun M8 hM8 => ?_)
  refine g_aload_n 57 1 hX dX12_appears_56 rfl rfl ?_
  refine r_X12_7 60 hX dX12_appears_57 rfl ?_
  refine g_iload 62 0 hX dX12_appears_60 rfl rfl ?_
  refine g_iconst 63 hX 3 dX12_appears_62 rfl kc_i_3 ?_
  refine g_callS_ip 66 hX (k_X12_atTrader l g N M8 v1 3) lk_X12_atTrader q_1621 (by omega) rfl (Nat.le_of_ble_eq_true rfl) (Nat.zero_le _) (Nat.zero_le _) dX12_appears_63 rfl (fun r9 => ?_)
  refine g_iload 68 5 hX dX12_appears_66 rfl rfl ?_
  refine g_iast 69 hX dX12_appears_68 rfl ?_
  refine g_klM (fun M10 hM10 => ?_)
  refine g_aload_n 70 1 hX dX12_appears_69 rfl rfl ?_
  refine r_X12_7 73 hX dX12_appears_70 rfl ?_
  refine g_iload 75 0 hX dX12_appears_73 rfl rfl ?_
  refine g_iconst 76 hX 4 dX12_appears_75 rfl kc_i_4 ?_
  refine g_callS_ip 79 hX (k_X12_atTrader l g N M10 v1 4) lk_X12_atTrader q_1621 (by omega) rfl (Nat.le_of_ble_eq_true rfl) (Nat.zero_le _) (Nat.zero_le _) dX12_appears_76 rfl (fun r11 => ?_)
  refine g_iconst 80 hX 1 dX12_appears_79 rfl kc_i_1 ?_
  refine g_iast 81 hX dX12_appears_80 rfl ?_
  refine g_klM (fun M12 hM12 => ?_)
  refine g_aload_n 82 1 hX dX12_appears_81 rfl rfl ?_
  refine r_X12_7 85 hX dX12_appears_82 rfl ?_
  refine g_iload 87 0 hX dX12_appears_85 rfl rfl ?_
  refine g_iconst 88 hX 5 dX12_appears_87 rfl kc_i_5 ?_
  refine g_callS_ip 91 hX (k_X12_atTrader l g N M12 v1 5) lk_X12_atTrader q_1621 (by omega) rfl (Nat.le_of_ble_eq_true rfl) (Nat.zero_le _) (Nat.zero_le _) dX12_appears_88 rfl (fun r13 => ?_)
  refine g_iconst 92 hX (-1) dX12_appears_91 rfl kc_i_m1 ?_
  refine g_iast 93 hX dX12_appears_92 rfl ?_
  refine g_klM (fun M14 hM14 => ?_)
  refine g_aload_n 94 1 hX dX12_appears_93 rfl rfl ?_
  refine r_X12_7 97 hX dX12_appears_94 rfl ?_
  refine g_iload 99 0 hX dX12_appears_97 rfl rfl ?_
  refine g_bipush 101 hX 6 dX12_appears_99 rfl kc_b_6 ?_
  refine g_callS_ip 104 hX (k_X12_atTrader l g N M14 v1 6) lk_X12_atTrader q_1621 (by omega) rfl (Nat.le_of_ble_eq_true rfl) (Nat.zero_le _) (Nat.zero_le _) dX12_appears_101 rfl (fun r15 => ?_)
  refine g_iconst 105 hX 0 dX12_appears_104 rfl kc_i_0 ?_
  refine g_iast 106 hX dX12_appears_105 rfl ?_
  refine g_klM (fun M16 hM16 => ?_)
  exact g_vret hX hr rfl (Nat.le_refl 0) (Nat.le_refl 0) dX12_appears_106
set_option maxRecDepth 100000 in
set_option maxHeartbeats 4000000 in
theorem k_X12_sits (l : Launch) (g : kG) (N : Nat) (M : kMem) (a0 : Nat) (x1 : Int32) (x2 : Int32) (x3 : Int32) : kMet l g yX12_sits cX12_sits 4 none 3 0 0 [.ref a0, .int x1, .int x2, .int x3] M (fun r : kMem => (none, r)) (F_X12_sits N M a0 x1 x2 x3) := by
  refine k_of (lv := [(0, .ref a0), (1, .int x1), (2, .int x2), (3, .int x3)]) RX12 (by decide) rfl rfl (Nat.le_of_ble_eq_true rfl) ?_
  intro p e s m args below meth c hX hr _
  unfold F_X12_sits
  refine g_aload_n 1 0 hX dX12_sits_0 rfl rfl ?_
  refine r_X12_7 4 hX dX12_sits_1 rfl ?_
  refine g_iload_n 5 2 hX dX12_sits_4 rfl rfl ?_
  refine g_iload_n 6 3 hX dX12_sits_5 rfl rfl ?_
  refine g_callS_ip 9 hX (k_X12_atSeat l g N M x2 x3) lk_X12_atSeat q_1628 (by omega) rfl (Nat.le_of_ble_eq_true rfl) (Nat.zero_le _) (Nat.zero_le _) dX12_sits_6 rfl (fun r1 => ?_)
  refine g_iload_n 10 1 hX dX12_sits_9 rfl rfl ?_
  refine g_iconst 11 hX 1 dX12_sits_10 rfl kc_i_1 ?_
  refine g_iadd 12 hX dX12_sits_11 rfl ?_
  refine g_iast 13 hX dX12_sits_12 rfl ?_
  refine g_klM (fun M2 hM2 => ?_)
  refine g_aload_n 14 0 hX dX12_sits_13 rfl rfl ?_
  refine r_X12_7 17 hX dX12_sits_14 rfl ?_
  refine g_iload_n 18 1 hX dX12_sits_17 rfl rfl ?_
  refine g_iconst 19 hX 5 dX12_sits_18 rfl kc_i_5 ?_
  refine g_callS_ip 22 hX (k_X12_atTrader l g N M2 x1 5) lk_X12_atTrader q_1621 (by omega) rfl (Nat.le_of_ble_eq_true rfl) (Nat.zero_le _) (Nat.zero_le _) dX12_sits_19 rfl (fun r3 => ?_)
  refine g_iload_n 23 2 hX dX12_sits_22 rfl rfl ?_
  refine g_iast 24 hX dX12_sits_23 rfl ?_
  refine g_klM (fun M4 hM4 => ?_)
  refine g_aload_n 25 0 hX dX12_sits_24 rfl rfl ?_
  refine r_X12_7 28 hX dX12_sits_25 rfl ?_
  refine g_iload_n 29 1 hX dX12_sits_28 rfl rfl ?_
  refine g_bipush 31 hX 6 dX12_sits_29 rfl kc_b_6 ?_
  refine g_callS_ip 34 hX (k_X12_atTrader l g N M4 x1 6) lk_X12_atTrader q_1621 (by omega) rfl (Nat.le_of_ble_eq_true rfl) (Nat.zero_le _) (Nat.zero_le _) dX12_sits_31 rfl (fun r5 => ?_)
  refine g_iload_n 35 3 hX dX12_sits_34 rfl rfl ?_
  refine g_iast 36 hX dX12_sits_35 rfl ?_
  refine g_klM (fun M6 hM6 => ?_)
  exact g_vret hX hr rfl (Nat.le_refl 0) (Nat.le_refl 0) dX12_sits_36
set_option maxRecDepth 100000 in
set_option maxHeartbeats 4000000 in
theorem k_X12_rises (l : Launch) (g : kG) (N : Nat) (M : kMem) (a0 : Nat) (x1 : Int32) : kMet l g yX12_rises cX12_rises 2 none 4 0 0 [.ref a0, .int x1] M (fun r : kMem => (none, r)) (F_X12_rises N M a0 x1) := by
  refine k_of (lv := [(0, .ref a0), (1, .int x1)]) RX12 (by decide) rfl rfl (Nat.le_of_ble_eq_true rfl) ?_
  intro p e s m args below meth c hX hr _
  unfold F_X12_rises
  refine g_aload_n 1 0 hX dX12_rises_0 rfl rfl ?_
  refine g_iload_n 2 1 hX dX12_rises_1 rfl rfl ?_
  refine g_callV_ip 5 hX (k_X12_isSeated l g N M a0 x1) lk_X12_isSeated rfl (ci := 12) rfl (Nat.le_of_ble_eq_true rfl) q_1857 q_62 (by omega) rfl (Nat.le_of_ble_eq_true rfl) (Nat.zero_le _) (Nat.zero_le _) dX12_rises_2 rfl (fun r1 => ?_)
  refine g_if_ne 9 8 hX dX12_rises_5 (by decide) rfl (fun _ => ?_) (fun _ => ?_)
  · refine g_aload_n 10 0 hX dX12_rises_9 rfl rfl ?_
    refine r_X12_7 13 hX dX12_rises_10 rfl ?_
    refine g_aload_n 14 0 hX dX12_rises_13 rfl rfl ?_
    refine g_iload_n 15 1 hX dX12_rises_14 rfl rfl ?_
    refine g_iconst 16 hX 5 dX12_rises_15 rfl kc_i_5 ?_
    refine g_callV_ip 19 hX (k_X12_has l g N M a0 x1 5) lk_X12_has rfl (ci := 12) rfl (Nat.le_of_ble_eq_true rfl) q_1635 q_40 (by omega) rfl (Nat.le_of_ble_eq_true rfl) (Nat.zero_le _) (Nat.zero_le _) dX12_rises_16 rfl (fun r2 => ?_)
    refine g_aload_n 20 0 hX dX12_rises_19 rfl rfl ?_
    refine g_iload_n 21 1 hX dX12_rises_20 rfl rfl ?_
    refine g_bipush 23 hX 6 dX12_rises_21 rfl kc_b_6 ?_
    refine g_callV_ip 26 hX (k_X12_has l g N M a0 x1 6) lk_X12_has rfl (ci := 12) rfl (Nat.le_of_ble_eq_true rfl) q_1635 q_40 (by omega) rfl (Nat.le_of_ble_eq_true rfl) (Nat.zero_le _) (Nat.zero_le _) dX12_rises_23 rfl (fun r3 => ?_)
    refine g_callS_ip 29 hX (k_X12_atSeat l g N M r2 r3) lk_X12_atSeat q_1628 (by omega) rfl (Nat.le_of_ble_eq_true rfl) (Nat.zero_le _) (Nat.zero_le _) dX12_rises_26 rfl (fun r4 => ?_)
    refine g_iconst 30 hX 0 dX12_rises_29 rfl kc_i_0 ?_
    refine g_iast 31 hX dX12_rises_30 rfl ?_
    refine g_klM (fun M5 hM5 => ?_)
    refine g_aload_n 32 0 hX dX12_rises_31 rfl rfl ?_
    refine r_X12_7 35 hX dX12_rises_32 rfl ?_
    refine g_iload_n 36 1 hX dX12_rises_35 rfl rfl ?_
    refine g_iconst 37 hX 5 dX12_rises_36 rfl kc_i_5 ?_
    refine g_callS_ip 40 hX (k_X12_atTrader l g N M5 x1 5) lk_X12_atTrader q_1621 (by omega) rfl (Nat.le_of_ble_eq_true rfl) (Nat.zero_le _) (Nat.zero_le _) dX12_rises_37 rfl (fun r6 => ?_)
    refine g_iconst 41 hX (-1) dX12_rises_40 rfl kc_i_m1 ?_
    refine g_iast 42 hX dX12_rises_41 rfl ?_
    refine g_klM (fun M7 hM7 => ?_)
    refine g_aload_n 43 0 hX dX12_rises_42 rfl rfl ?_
    refine r_X12_7 46 hX dX12_rises_43 rfl ?_
    refine g_iload_n 47 1 hX dX12_rises_46 rfl rfl ?_
    refine g_bipush 49 hX 6 dX12_rises_47 rfl kc_b_6 ?_
    refine g_callS_ip 52 hX (k_X12_atTrader l g N M7 x1 6) lk_X12_atTrader q_1621 (by omega) rfl (Nat.le_of_ble_eq_true rfl) (Nat.zero_le _) (Nat.zero_le _) dX12_rises_49 rfl (fun r8 => ?_)
    refine g_iconst 53 hX 0 dX12_rises_52 rfl kc_i_0 ?_
    refine g_iast 54 hX dX12_rises_53 rfl ?_
    refine g_klM (fun M9 hM9 => ?_)
    exact g_vret hX hr rfl (Nat.le_refl 0) (Nat.le_refl 0) dX12_rises_54
  · exact g_vret hX hr rfl (Nat.le_refl 0) (Nat.le_refl 0) dX12_rises_8
set_option maxRecDepth 100000 in
set_option maxHeartbeats 4000000 in
theorem k_X12_allCoins_9 {p : Program} {l : Launch} {e : Env} {s : State} {m : MethodId} {args : Array Value} {below : List Frame} {meth : Method} {c : Code} {g : kG} (hX : Cok (p, l, e, { frames := 2 * 3, cells := 0, slots := 0, locals := 60 * 3 }, s, m, args, below, meth, c, cX12_allCoins, 3, RX12, g, 3)) (hr : meth.sig.returnType = (some .int)) (N : Nat) (M : kMem) : ∀ (n : Nat) (a0 : Nat) (x1 : Int32) (x2 : Int32), GG (p, l, e, { frames := 2 * 3, cells := 0, slots := 0, locals := 60 * 3 }, s, m, args, below, meth, c, cX12_allCoins, 3, RX12, g, 3) (fun b => MQ below (kQ g ((fun r : Int32 => (some (.int r), M)) b)) args s 0 0 (kZ g.2.2.1)) 0 0 (F_X12_allCoins_9 N M n a0 x1 x2) 9 [(0, .ref a0), (1, .int x1), (2, .int x2)] [] M := by
  intro n
  induction n with
  | zero => intro _ _ _; exact g_none
  | succ n ih =>
    intro a0 x1 x2
    unfold F_X12_allCoins_9
    refine g_iload_n 10 2 hX dX12_allCoins_9 rfl rfl ?_
    refine g_aload_n 11 0 hX dX12_allCoins_10 rfl rfl ?_
    refine r_X12_7 14 hX dX12_allCoins_11 rfl ?_
    refine g_bipush 16 hX 8 dX12_allCoins_14 rfl kc_b_8 ?_
    refine g_iald 17 hX dX12_allCoins_16 rfl ?_
    refine g_icmp_ge 35 20 hX dX12_allCoins_17 (by decide) rfl (fun _ => ?_) (fun _ => ?_)
    · refine g_iload_n 36 1 hX dX12_allCoins_35 rfl rfl ?_
      exact g_iret hX hr rfl (Nat.le_refl 0) (Nat.le_refl 0) dX12_allCoins_36
    · refine g_iload_n 21 1 hX dX12_allCoins_20 rfl rfl ?_
      refine g_aload_n 22 0 hX dX12_allCoins_21 rfl rfl ?_
      refine g_iload_n 23 2 hX dX12_allCoins_22 rfl rfl ?_
      refine g_iconst 24 hX 2 dX12_allCoins_23 rfl kc_i_2 ?_
      refine g_callV_ip 27 hX (k_X12_has l g N M a0 x2 2) lk_X12_has rfl (ci := 12) rfl (Nat.le_of_ble_eq_true rfl) q_1635 q_40 (by omega) rfl (Nat.le_of_ble_eq_true rfl) (Nat.zero_le _) (Nat.zero_le _) dX12_allCoins_24 rfl (fun r2 => ?_)
      refine g_iadd 28 hX dX12_allCoins_27 rfl ?_
      refine g_klI (fun v3 hv3 => ?_)
      refine g_istore_n 29 1 [(1, .int v3), (0, .ref a0), (2, .int x2)] hX dX12_allCoins_28 rfl rfl (Nat.le_of_ble_eq_true rfl) rfl ?_
      refine g_kl (fun v4 hv4 => ?_)
      refine g_iinc 32 2 2 v4 [(2, .int v4), (1, .int v3), (0, .ref a0)] hX dX12_allCoins_29 rfl rfl (by rw [hv4, kc_i_1]) (Nat.le_of_ble_eq_true rfl) rfl ?_
      refine g_goto 9 hX dX12_allCoins_32 (by decide) ?_
      refine g_lv [2, 1, 0] rfl ?_
      exact ih a0 v3 v4
set_option maxRecDepth 100000 in
set_option maxHeartbeats 4000000 in
theorem k_X12_allCoins (l : Launch) (g : kG) (N : Nat) (M : kMem) (a0 : Nat) : kMet l g yX12_allCoins cX12_allCoins 3 (some .int) 3 0 0 [.ref a0] M (fun r : Int32 => (some (.int r), M)) (F_X12_allCoins N M a0) := by
  refine k_of (lv := [(0, .ref a0)]) RX12 (by decide) rfl rfl (Nat.le_of_ble_eq_true rfl) ?_
  intro p e s m args below meth c hX hr _
  unfold F_X12_allCoins
  refine g_aload_n 1 0 hX dX12_allCoins_0 rfl rfl ?_
  refine r_X12_7 4 hX dX12_allCoins_1 rfl ?_
  refine g_iconst 5 hX 5 dX12_allCoins_4 rfl kc_i_5 ?_
  refine g_iald 6 hX dX12_allCoins_5 rfl ?_
  refine g_klI (fun v1 hv1 => ?_)
  refine g_istore_n 7 1 [(1, .int v1), (0, .ref a0)] hX dX12_allCoins_6 rfl rfl (Nat.le_of_ble_eq_true rfl) rfl ?_
  refine g_iconst 8 hX 0 dX12_allCoins_7 rfl kc_i_0 ?_
  refine g_istore_n 9 2 [(2, .int 0), (1, .int v1), (0, .ref a0)] hX dX12_allCoins_8 rfl rfl (Nat.le_of_ble_eq_true rfl) rfl ?_
  refine g_lv [2, 1, 0] rfl ?_
  exact k_X12_allCoins_9 hX hr N M N a0 v1 0
set_option maxRecDepth 100000 in
set_option maxHeartbeats 4000000 in
theorem k_X12_traderNamed_2 {p : Program} {l : Launch} {e : Env} {s : State} {m : MethodId} {args : Array Value} {below : List Frame} {meth : Method} {c : Code} {g : kG} (hX : Cok (p, l, e, { frames := 2 * 3, cells := 0, slots := 0, locals := 60 * 3 }, s, m, args, below, meth, c, cX12_traderNamed, 3, RX12, g, 3)) (hr : meth.sig.returnType = (some .int)) (N : Nat) (M : kMem) : ∀ (n : Nat) (a0 : Nat) (x1 : Int32) (x2 : Int32), GG (p, l, e, { frames := 2 * 3, cells := 0, slots := 0, locals := 60 * 3 }, s, m, args, below, meth, c, cX12_traderNamed, 3, RX12, g, 3) (fun b => MQ below (kQ g ((fun r : Int32 => (some (.int r), M)) b)) args s 0 0 (kZ g.2.2.1)) 0 0 (F_X12_traderNamed_2 N M n a0 x1 x2) 2 [(0, .ref a0), (1, .int x1), (2, .int x2)] [] M := by
  intro n
  induction n with
  | zero => intro _ _ _; exact g_none
  | succ n ih =>
    intro a0 x1 x2
    unfold F_X12_traderNamed_2
    refine g_iload_n 3 2 hX dX12_traderNamed_2 rfl rfl ?_
    refine g_aload_n 4 0 hX dX12_traderNamed_3 rfl rfl ?_
    refine r_X12_7 7 hX dX12_traderNamed_4 rfl ?_
    refine g_bipush 9 hX 8 dX12_traderNamed_7 rfl kc_b_8 ?_
    refine g_iald 10 hX dX12_traderNamed_9 rfl ?_
    refine g_icmp_ge 31 13 hX dX12_traderNamed_10 (by decide) rfl (fun _ => ?_) (fun _ => ?_)
    · refine g_iconst 32 hX (-1) dX12_traderNamed_31 rfl kc_i_m1 ?_
      exact g_iret hX hr rfl (Nat.le_refl 0) (Nat.le_refl 0) dX12_traderNamed_32
    · refine g_aload_n 14 0 hX dX12_traderNamed_13 rfl rfl ?_
      refine g_iload_n 15 2 hX dX12_traderNamed_14 rfl rfl ?_
      refine g_iconst 16 hX 0 dX12_traderNamed_15 rfl kc_i_0 ?_
      refine g_callV_ip 19 hX (k_X12_has l g N M a0 x2 0) lk_X12_has rfl (ci := 12) rfl (Nat.le_of_ble_eq_true rfl) q_1635 q_40 (by omega) rfl (Nat.le_of_ble_eq_true rfl) (Nat.zero_le _) (Nat.zero_le _) dX12_traderNamed_16 rfl (fun r1 => ?_)
      refine g_iload_n 20 1 hX dX12_traderNamed_19 rfl rfl ?_
      refine g_icmp_ne 25 23 hX dX12_traderNamed_20 (by decide) rfl (fun _ => ?_) (fun _ => ?_)
      · refine g_kl (fun v2 hv2 => ?_)
        refine g_iinc 28 2 2 v2 [(2, .int v2), (0, .ref a0), (1, .int x1)] hX dX12_traderNamed_25 rfl rfl (by rw [hv2, kc_i_1]) (Nat.le_of_ble_eq_true rfl) rfl ?_
        refine g_goto 2 hX dX12_traderNamed_28 (by decide) ?_
        refine g_lv [1, 2, 0] rfl ?_
        exact ih a0 x1 v2
      · refine g_iload_n 24 2 hX dX12_traderNamed_23 rfl rfl ?_
        exact g_iret hX hr rfl (Nat.le_refl 0) (Nat.le_refl 0) dX12_traderNamed_24
set_option maxRecDepth 100000 in
set_option maxHeartbeats 4000000 in
theorem k_X12_traderNamed (l : Launch) (g : kG) (N : Nat) (M : kMem) (a0 : Nat) (x1 : Int32) : kMet l g yX12_traderNamed cX12_traderNamed 3 (some .int) 3 0 0 [.ref a0, .int x1] M (fun r : Int32 => (some (.int r), M)) (F_X12_traderNamed N M a0 x1) := by
  refine k_of (lv := [(0, .ref a0), (1, .int x1)]) RX12 (by decide) rfl rfl (Nat.le_of_ble_eq_true rfl) ?_
  intro p e s m args below meth c hX hr _
  unfold F_X12_traderNamed
  refine g_iconst 1 hX 0 dX12_traderNamed_0 rfl kc_i_0 ?_
  refine g_istore_n 2 2 [(2, .int 0), (0, .ref a0), (1, .int x1)] hX dX12_traderNamed_1 rfl rfl (Nat.le_of_ble_eq_true rfl) rfl ?_
  refine g_lv [1, 2, 0] rfl ?_
  exact k_X12_traderNamed_2 hX hr N M N a0 x1 0
set_option maxRecDepth 100000 in
set_option maxHeartbeats 4000000 in
theorem k_X12_isPosition (l : Launch) (g : kG) (N : Nat) (M : kMem) (a0 : Nat) (x1 : Int32) (x2 : Int32) : kMet l g yX12_isPosition cX12_isPosition 3 (some .boolean) 3 0 0 [.ref a0, .int x1, .int x2] M (fun r : Int32 => (some (.int r), M)) (F_X12_isPosition N M a0 x1 x2) := by
  refine k_of (lv := [(0, .ref a0), (1, .int x1), (2, .int x2)]) RX12 (by decide) rfl rfl (Nat.le_of_ble_eq_true rfl) ?_
  intro p e s m args below meth c hX hr _
  unfold F_X12_isPosition
  refine g_iload_n 1 2 hX dX12_isPosition_0 rfl rfl ?_
  refine g_if_eq 31 4 hX dX12_isPosition_1 (by decide) rfl (fun _ => ?_) (fun _ => ?_)
  · refine g_iconst 32 hX 0 dX12_isPosition_31 rfl kc_i_0 ?_
    exact g_zretL hX hr rfl rfl (Nat.le_refl 0) (Nat.le_refl 0) dX12_isPosition_32
  · refine g_iload_n 5 2 hX dX12_isPosition_4 rfl rfl ?_
    refine g_i2l 6 hX dX12_isPosition_5 rfl ?_
    refine g_aload_n 7 0 hX dX12_isPosition_6 rfl rfl ?_
    refine g_iload_n 8 1 hX dX12_isPosition_7 rfl rfl ?_
    refine g_iconst 9 hX 0 dX12_isPosition_8 rfl kc_i_0 ?_
    refine g_callV_ip 12 hX (k_X12_ofBoard l g N M a0 x1 0) lk_X12_ofBoard rfl (ci := 12) rfl (Nat.le_of_ble_eq_true rfl) q_1867 q_64 (by omega) rfl (Nat.le_of_ble_eq_true rfl) (Nat.zero_le _) (Nat.zero_le _) dX12_isPosition_9 rfl (fun r1 => ?_)
    refine g_ineg 13 hX dX12_isPosition_12 rfl ?_
    refine g_i2l 14 hX dX12_isPosition_13 rfl ?_
    refine g_aload_n 15 0 hX dX12_isPosition_14 rfl rfl ?_
    refine g_iload_n 16 1 hX dX12_isPosition_15 rfl rfl ?_
    refine g_iconst 17 hX 0 dX12_isPosition_16 rfl kc_i_0 ?_
    refine g_callV_ip 20 hX (k_X12_ofBoard l g N M a0 x1 0) lk_X12_ofBoard rfl (ci := 12) rfl (Nat.le_of_ble_eq_true rfl) q_1867 q_64 (by omega) rfl (Nat.le_of_ble_eq_true rfl) (Nat.zero_le _) (Nat.zero_le _) dX12_isPosition_17 rfl (fun r2 => ?_)
    refine g_i2l 21 hX dX12_isPosition_20 rfl ?_
    refine g_callS_ip 24 hX (k_X12_in l g N M x2.toInt64 ((-r1).toInt64) r2.toInt64) lk_X12_in q_1754 (by omega) rfl (Nat.le_of_ble_eq_true rfl) (Nat.zero_le _) (Nat.zero_le _) dX12_isPosition_21 rfl (fun r3 => ?_)
    refine g_if_eq 31 27 hX dX12_isPosition_24 (by decide) rfl (fun _ => ?_) (fun _ => ?_)
    · refine g_iconst 32 hX 0 dX12_isPosition_31 rfl kc_i_0 ?_
      exact g_zretL hX hr rfl rfl (Nat.le_refl 0) (Nat.le_refl 0) dX12_isPosition_32
    · refine g_iconst 28 hX 1 dX12_isPosition_27 rfl kc_i_1 ?_
      refine g_goto 32 hX dX12_isPosition_28 (by decide) ?_
      exact g_zretL hX hr rfl rfl (Nat.le_refl 0) (Nat.le_refl 0) dX12_isPosition_32
set_option maxRecDepth 100000 in
set_option maxHeartbeats 4000000 in
theorem k_X12_torqueOf_10 {p : Program} {l : Launch} {e : Env} {s : State} {m : MethodId} {args : Array Value} {below : List Frame} {meth : Method} {c : Code} {g : kG} (hX : Cok (p, l, e, { frames := 2 * 4, cells := 0, slots := 0, locals := 60 * 4 }, s, m, args, below, meth, c, cX12_torqueOf, 4, RX12, g, 4)) (hr : meth.sig.returnType = (some .int)) (N : Nat) (M : kMem) : ∀ (n : Nat) (a0 : Nat) (x1 : Int32) (x2 : Int32) (x3 : Int32), GG (p, l, e, { frames := 2 * 4, cells := 0, slots := 0, locals := 60 * 4 }, s, m, args, below, meth, c, cX12_torqueOf, 4, RX12, g, 4) (fun b => MQ below (kQ g ((fun r : Int32 => (some (.int r), M)) b)) args s 0 0 (kZ g.2.2.1)) 0 0 (F_X12_torqueOf_10 N M n a0 x1 x2 x3) 10 [(0, .ref a0), (1, .int x1), (2, .int x2), (3, .int x3)] [] M := by
  intro n
  induction n with
  | zero => intro _ _ _ _; exact g_none
  | succ n ih =>
    intro a0 x1 x2 x3
    unfold F_X12_torqueOf_10
    refine g_iload_n 11 3 hX dX12_torqueOf_10 rfl rfl ?_
    refine g_aload_n 12 0 hX dX12_torqueOf_11 rfl rfl ?_
    refine g_iload_n 13 1 hX dX12_torqueOf_12 rfl rfl ?_
    refine g_iconst 14 hX 0 dX12_torqueOf_13 rfl kc_i_0 ?_
    refine g_callV_ip 17 hX (k_X12_ofBoard l g N M a0 x1 0) lk_X12_ofBoard rfl (ci := 12) rfl (Nat.le_of_ble_eq_true rfl) q_1867 q_64 (by omega) rfl (Nat.le_of_ble_eq_true rfl) (Nat.zero_le _) (Nat.zero_le _) dX12_torqueOf_14 rfl (fun r3 => ?_)
    refine g_icmp_gt 56 20 hX dX12_torqueOf_17 (by decide) rfl (fun _ => ?_) (fun _ => ?_)
    · refine g_iload_n 57 2 hX dX12_torqueOf_56 rfl rfl ?_
      exact g_iret hX hr rfl (Nat.le_refl 0) (Nat.le_refl 0) dX12_torqueOf_57
    · refine g_iload_n 21 3 hX dX12_torqueOf_20 rfl rfl ?_
      refine g_if_eq 50 24 hX dX12_torqueOf_21 (by decide) rfl (fun _ => ?_) (fun _ => ?_)
      · refine g_kl (fun v4 hv4 => ?_)
        refine g_iinc 53 3 3 v4 [(3, .int v4), (0, .ref a0), (1, .int x1), (2, .int x2)] hX dX12_torqueOf_50 rfl rfl (by rw [hv4, kc_i_1]) (Nat.le_of_ble_eq_true rfl) rfl ?_
        refine g_goto 10 hX dX12_torqueOf_53 (by decide) ?_
        refine g_lv [1, 2, 3, 0] rfl ?_
        exact ih a0 x1 x2 v4
      · refine g_aload_n 25 0 hX dX12_torqueOf_24 rfl rfl ?_
        refine g_iload_n 26 1 hX dX12_torqueOf_25 rfl rfl ?_
        refine g_iload_n 27 3 hX dX12_torqueOf_26 rfl rfl ?_
        refine g_callV_ip 30 hX (k_X12_onSeat l g N M a0 x1 x3) lk_X12_onSeat rfl (ci := 12) rfl (Nat.le_of_ble_eq_true rfl) q_1871 q_65 (by omega) rfl (Nat.le_of_ble_eq_true rfl) (Nat.zero_le _) (Nat.zero_le _) dX12_torqueOf_27 rfl (fun r5 => ?_)
        refine g_iconst 31 hX (-1) dX12_torqueOf_30 rfl kc_i_m1 ?_
        refine g_icmp_eq 50 34 hX dX12_torqueOf_31 (by decide) rfl (fun _ => ?_) (fun _ => ?_)
        · refine g_kl (fun v6 hv6 => ?_)
          refine g_iinc 53 3 3 v6 [(3, .int v6), (0, .ref a0), (1, .int x1), (2, .int x2)] hX dX12_torqueOf_50 rfl rfl (by rw [hv6, kc_i_1]) (Nat.le_of_ble_eq_true rfl) rfl ?_
          refine g_goto 10 hX dX12_torqueOf_53 (by decide) ?_
          refine g_lv [1, 2, 3, 0] rfl ?_
          exact ih a0 x1 x2 v6
        · refine g_iload_n 35 2 hX dX12_torqueOf_34 rfl rfl ?_
          refine g_iload_n 36 3 hX dX12_torqueOf_35 rfl rfl ?_
          refine g_aload_n 37 0 hX dX12_torqueOf_36 rfl rfl ?_
          refine g_aload_n 38 0 hX dX12_torqueOf_37 rfl rfl ?_
          refine g_iload_n 39 1 hX dX12_torqueOf_38 rfl rfl ?_
          refine g_iload_n 40 3 hX dX12_torqueOf_39 rfl rfl ?_
          refine g_callV_ip 43 hX (k_X12_onSeat l g N M a0 x1 x3) lk_X12_onSeat rfl (ci := 12) rfl (Nat.le_of_ble_eq_true rfl) q_1871 q_65 (by omega) rfl (Nat.le_of_ble_eq_true rfl) (Nat.zero_le _) (Nat.zero_le _) dX12_torqueOf_40 rfl (fun r7 => ?_)
          refine g_iconst 44 hX 1 dX12_torqueOf_43 rfl kc_i_1 ?_
          refine g_callV_ip 47 hX (k_X12_has l g N M a0 r7 1) lk_X12_has rfl (ci := 12) rfl (Nat.le_of_ble_eq_true rfl) q_1635 q_40 (by omega) rfl (Nat.le_of_ble_eq_true rfl) (Nat.zero_le _) (Nat.zero_le _) dX12_torqueOf_44 rfl (fun r8 => ?_)
          refine g_imul 48 hX dX12_torqueOf_47 rfl ?_
          refine g_iadd 49 hX dX12_torqueOf_48 rfl ?_
          refine g_klI (fun v9 hv9 => ?_)
          refine g_istore_n 50 2 [(2, .int v9), (0, .ref a0), (1, .int x1), (3, .int x3)] hX dX12_torqueOf_49 rfl rfl (Nat.le_of_ble_eq_true rfl) rfl ?_
          refine g_kl (fun v10 hv10 => ?_)
          refine g_iinc 53 3 3 v10 [(3, .int v10), (2, .int v9), (0, .ref a0), (1, .int x1)] hX dX12_torqueOf_50 rfl rfl (by rw [hv10, kc_i_1]) (Nat.le_of_ble_eq_true rfl) rfl ?_
          refine g_goto 10 hX dX12_torqueOf_53 (by decide) ?_
          refine g_lv [2, 3, 1, 0] rfl ?_
          exact ih a0 x1 v9 v10
set_option maxRecDepth 100000 in
set_option maxHeartbeats 4000000 in
theorem k_X12_torqueOf (l : Launch) (g : kG) (N : Nat) (M : kMem) (a0 : Nat) (x1 : Int32) : kMet l g yX12_torqueOf cX12_torqueOf 4 (some .int) 4 0 0 [.ref a0, .int x1] M (fun r : Int32 => (some (.int r), M)) (F_X12_torqueOf N M a0 x1) := by
  refine k_of (lv := [(0, .ref a0), (1, .int x1)]) RX12 (by decide) rfl rfl (Nat.le_of_ble_eq_true rfl) ?_
  intro p e s m args below meth c hX hr _
  unfold F_X12_torqueOf
  refine g_iconst 1 hX 0 dX12_torqueOf_0 rfl kc_i_0 ?_
  refine g_istore_n 2 2 [(2, .int 0), (0, .ref a0), (1, .int x1)] hX dX12_torqueOf_1 rfl rfl (Nat.le_of_ble_eq_true rfl) rfl ?_
  refine g_aload_n 3 1 hX dX12_torqueOf_2 rfl rfl ?_
  refine g_iload_n 4 2 hX dX12_torqueOf_3 rfl rfl ?_
  refine g_iconst 5 hX 0 dX12_torqueOf_4 rfl kc_i_0 ?_
  refine g_callV_ip 8 hX (k_X12_ofBoard l g N M a0 x1 0) lk_X12_ofBoard rfl (ci := 12) rfl (Nat.le_of_ble_eq_true rfl) q_1867 q_64 (by omega) rfl (Nat.le_of_ble_eq_true rfl) (Nat.zero_le _) (Nat.zero_le _) dX12_torqueOf_5 rfl (fun r1 => ?_)
  refine g_ineg 9 hX dX12_torqueOf_8 rfl ?_
  refine g_klI (fun v2 hv2 => ?_)
  refine g_istore_n 10 3 [(3, .int v2), (2, .int 0), (0, .ref a0), (1, .int x1)] hX dX12_torqueOf_9 rfl rfl (Nat.le_of_ble_eq_true rfl) rfl ?_
  refine g_lv [2, 3, 1, 0] rfl ?_
  exact k_X12_torqueOf_10 hX hr N M N a0 x1 0 v2
set_option maxRecDepth 100000 in
set_option maxHeartbeats 4000000 in
theorem k_X12_tiltBy (l : Launch) (g : kG) (N : Nat) (M : kMem) (a0 : Nat) (x1 : Int32) (x2 : Int32) : kMet l g yX12_tiltBy cX12_tiltBy 3 (some .int) 3 0 0 [.ref a0, .int x1, .int x2] M (fun r : Int32 => (some (.int r), M)) (F_X12_tiltBy N M a0 x1 x2) := by
  refine k_of (lv := [(0, .ref a0), (1, .int x1), (2, .int x2)]) RX12 (by decide) rfl rfl (Nat.le_of_ble_eq_true rfl) ?_
  intro p e s m args below meth c hX hr _
  unfold F_X12_tiltBy
  refine g_bipush 2 hX (-9) dX12_tiltBy_0 rfl kc_b_m9 ?_
  refine g_bipush 4 hX 9 dX12_tiltBy_2 rfl kc_b_9 ?_
  refine g_iload_n 5 2 hX dX12_tiltBy_4 rfl rfl ?_
  refine g_aload_n 6 0 hX dX12_tiltBy_5 rfl rfl ?_
  refine g_iload_n 7 1 hX dX12_tiltBy_6 rfl rfl ?_
  refine g_iconst 8 hX 1 dX12_tiltBy_7 rfl kc_i_1 ?_
  refine g_callV_ip 11 hX (k_X12_ofBoard l g N M a0 x1 1) lk_X12_ofBoard rfl (ci := 12) rfl (Nat.le_of_ble_eq_true rfl) q_1867 q_64 (by omega) rfl (Nat.le_of_ble_eq_true rfl) (Nat.zero_le _) (Nat.zero_le _) dX12_tiltBy_8 rfl (fun r1 => ?_)
  refine g_idiv 12 hX dX12_tiltBy_11 rfl ?_
  refine g_callS_ip 15 hX (k_X12_lesser l g N M 9 (x2 / r1)) lk_X12_lesser q_1849 (by omega) rfl (Nat.le_of_ble_eq_true rfl) (Nat.zero_le _) (Nat.zero_le _) dX12_tiltBy_12 rfl (fun r2 => ?_)
  refine g_callS_ip 18 hX (k_X12_greater l g N M (-9) r2) lk_X12_greater q_1969 (by omega) rfl (Nat.le_of_ble_eq_true rfl) (Nat.zero_le _) (Nat.zero_le _) dX12_tiltBy_15 rfl (fun r3 => ?_)
  exact g_iret hX hr rfl (Nat.le_refl 0) (Nat.le_refl 0) dX12_tiltBy_18
set_option maxRecDepth 100000 in
set_option maxHeartbeats 4000000 in
theorem k_X12_height (l : Launch) (g : kG) (N : Nat) (M : kMem) (a0 : Nat) (x1 : Int32) (x2 : Int32) : kMet l g yX12_height cX12_height 3 (some .int) 5 0 0 [.ref a0, .int x1, .int x2] M (fun r : Int32 => (some (.int r), M)) (F_X12_height N M a0 x1 x2) := by
  refine k_of (lv := [(0, .ref a0), (1, .int x1), (2, .int x2)]) RX12 (by decide) rfl rfl (Nat.le_of_ble_eq_true rfl) ?_
  intro p e s m args below meth c hX hr _
  unfold F_X12_height
  refine g_iload_n 1 2 hX dX12_height_0 rfl rfl ?_
  refine g_ineg 2 hX dX12_height_1 rfl ?_
  refine g_aload_n 3 0 hX dX12_height_2 rfl rfl ?_
  refine g_iload_n 4 1 hX dX12_height_3 rfl rfl ?_
  refine g_aload_n 5 0 hX dX12_height_4 rfl rfl ?_
  refine g_iload_n 6 1 hX dX12_height_5 rfl rfl ?_
  refine g_callV_ip 9 hX (k_X12_torqueOf l g N M a0 x1) lk_X12_torqueOf rfl (ci := 12) rfl (Nat.le_of_ble_eq_true rfl) q_1961 q_83 (by omega) rfl (Nat.le_of_ble_eq_true rfl) (Nat.zero_le _) (Nat.zero_le _) dX12_height_6 rfl (fun r1 => ?_)
  refine g_callV_ip 12 hX (k_X12_tiltBy l g N M a0 x1 r1) lk_X12_tiltBy rfl (ci := 12) rfl (Nat.le_of_ble_eq_true rfl) q_1965 q_84 (by omega) rfl (Nat.le_of_ble_eq_true rfl) (Nat.zero_le _) (Nat.zero_le _) dX12_height_9 rfl (fun r2 => ?_)
  refine g_imul 13 hX dX12_height_12 rfl ?_
  exact g_iret hX hr rfl (Nat.le_refl 0) (Nat.le_refl 0) dX12_height_13
set_option maxRecDepth 100000 in
set_option maxHeartbeats 4000000 in
theorem k_X12_ownHeight (l : Launch) (g : kG) (N : Nat) (M : kMem) (a0 : Nat) (x1 : Int32) : kMet l g yX12_ownHeight cX12_ownHeight 2 (some .int) 6 0 0 [.ref a0, .int x1] M (fun r : Int32 => (some (.int r), M)) (F_X12_ownHeight N M a0 x1) := by
  refine k_of (lv := [(0, .ref a0), (1, .int x1)]) RX12 (by decide) rfl rfl (Nat.le_of_ble_eq_true rfl) ?_
  intro p e s m args below meth c hX hr _
  unfold F_X12_ownHeight
  refine g_aload_n 1 0 hX dX12_ownHeight_0 rfl rfl ?_
  refine g_aload_n 2 0 hX dX12_ownHeight_1 rfl rfl ?_
  refine g_iload_n 3 1 hX dX12_ownHeight_2 rfl rfl ?_
  refine g_iconst 4 hX 5 dX12_ownHeight_3 rfl kc_i_5 ?_
  refine g_callV_ip 7 hX (k_X12_has l g N M a0 x1 5) lk_X12_has rfl (ci := 12) rfl (Nat.le_of_ble_eq_true rfl) q_1635 q_40 (by omega) rfl (Nat.le_of_ble_eq_true rfl) (Nat.zero_le _) (Nat.zero_le _) dX12_ownHeight_4 rfl (fun r1 => ?_)
  refine g_aload_n 8 0 hX dX12_ownHeight_7 rfl rfl ?_
  refine g_iload_n 9 1 hX dX12_ownHeight_8 rfl rfl ?_
  refine g_bipush 11 hX 6 dX12_ownHeight_9 rfl kc_b_6 ?_
  refine g_callV_ip 14 hX (k_X12_has l g N M a0 x1 6) lk_X12_has rfl (ci := 12) rfl (Nat.le_of_ble_eq_true rfl) q_1635 q_40 (by omega) rfl (Nat.le_of_ble_eq_true rfl) (Nat.zero_le _) (Nat.zero_le _) dX12_ownHeight_11 rfl (fun r2 => ?_)
  refine g_callV_ip 17 hX (k_X12_height l g N M a0 r1 r2) lk_X12_height rfl (ci := 12) rfl (Nat.le_of_ble_eq_true rfl) q_1957 q_82 (by omega) rfl (Nat.le_of_ble_eq_true rfl) (Nat.zero_le _) (Nat.zero_le _) dX12_ownHeight_14 rfl (fun r3 => ?_)
  exact g_iret hX hr rfl (Nat.le_refl 0) (Nat.le_refl 0) dX12_ownHeight_17
set_option maxRecDepth 100000 in
set_option maxHeartbeats 4000000 in
theorem k_X12_price (l : Launch) (g : kG) (N : Nat) (M : kMem) (a0 : Nat) (x1 : Int32) (x2 : Int32) : kMet l g yX12_price cX12_price 3 (some .int) 6 0 0 [.ref a0, .int x1, .int x2] M (fun r : Int32 => (some (.int r), M)) (F_X12_price N M a0 x1 x2) := by
  refine k_of (lv := [(0, .ref a0), (1, .int x1), (2, .int x2)]) RX12 (by decide) rfl rfl (Nat.le_of_ble_eq_true rfl) ?_
  intro p e s m args below meth c hX hr _
  unfold F_X12_price
  refine g_aload_n 1 0 hX dX12_price_0 rfl rfl ?_
  refine r_X12_7 4 hX dX12_price_1 rfl ?_
  refine g_iconst 5 hX 1 dX12_price_4 rfl kc_i_1 ?_
  refine g_iald 6 hX dX12_price_5 rfl ?_
  refine g_iload_n 7 2 hX dX12_price_6 rfl rfl ?_
  refine g_callS_ip 10 hX (k_X12_bare l g N M x2) lk_X12_bare q_1954 (by omega) rfl (Nat.le_of_ble_eq_true rfl) (Nat.zero_le _) (Nat.zero_le _) dX12_price_7 rfl (fun r1 => ?_)
  refine g_iadd 11 hX dX12_price_10 rfl ?_
  refine g_iconst 12 hX 0 dX12_price_11 rfl kc_i_0 ?_
  refine g_aload_n 13 0 hX dX12_price_12 rfl rfl ?_
  refine g_iload_n 14 1 hX dX12_price_13 rfl rfl ?_
  refine g_iload_n 15 2 hX dX12_price_14 rfl rfl ?_
  refine g_callV_ip 18 hX (k_X12_height l g N M a0 x1 x2) lk_X12_height rfl (ci := 12) rfl (Nat.le_of_ble_eq_true rfl) q_1957 q_82 (by omega) rfl (Nat.le_of_ble_eq_true rfl) (Nat.zero_le _) (Nat.zero_le _) dX12_price_15 rfl (fun r2 => ?_)
  refine g_callS_ip 21 hX (k_X12_greater l g N M 0 r2) lk_X12_greater q_1969 (by omega) rfl (Nat.le_of_ble_eq_true rfl) (Nat.zero_le _) (Nat.zero_le _) dX12_price_18 rfl (fun r3 => ?_)
  refine g_iadd 22 hX dX12_price_21 rfl ?_
  exact g_iret hX hr rfl (Nat.le_refl 0) (Nat.le_refl 0) dX12_price_22
set_option maxRecDepth 100000 in
set_option maxHeartbeats 4000000 in
theorem k_X12_unitPrice (l : Launch) (g : kG) (N : Nat) (M : kMem) (a0 : Nat) (x1 : Int32) (x2 : Int32) : kMet l g yX12_unitPrice cX12_unitPrice 3 (some .int) 7 0 0 [.ref a0, .int x1, .int x2] M (fun r : Int32 => (some (.int r), M)) (F_X12_unitPrice N M a0 x1 x2) := by
  refine k_of (lv := [(0, .ref a0), (1, .int x1), (2, .int x2)]) RX12 (by decide) rfl rfl (Nat.le_of_ble_eq_true rfl) ?_
  intro p e s m args below meth c hX hr _
  unfold F_X12_unitPrice
  refine g_iconst 1 hX 1 dX12_unitPrice_0 rfl kc_i_1 ?_
  refine g_aload_n 2 0 hX dX12_unitPrice_1 rfl rfl ?_
  refine r_X12_7 5 hX dX12_unitPrice_2 rfl ?_
  refine g_iconst 6 hX 2 dX12_unitPrice_5 rfl kc_i_2 ?_
  refine g_iald 7 hX dX12_unitPrice_6 rfl ?_
  refine g_aload_n 8 0 hX dX12_unitPrice_7 rfl rfl ?_
  refine g_iload_n 9 2 hX dX12_unitPrice_8 rfl rfl ?_
  refine g_callV_ip 12 hX (k_X12_ownHeight l g N M a0 x2) lk_X12_ownHeight rfl (ci := 12) rfl (Nat.le_of_ble_eq_true rfl) q_2016 q_96 (by omega) rfl (Nat.le_of_ble_eq_true rfl) (Nat.zero_le _) (Nat.zero_le _) dX12_unitPrice_9 rfl (fun r1 => ?_)
  refine g_iadd 13 hX dX12_unitPrice_12 rfl ?_
  refine g_aload_n 14 0 hX dX12_unitPrice_13 rfl rfl ?_
  refine g_iload_n 15 1 hX dX12_unitPrice_14 rfl rfl ?_
  refine g_callV_ip 18 hX (k_X12_ownHeight l g N M a0 x1) lk_X12_ownHeight rfl (ci := 12) rfl (Nat.le_of_ble_eq_true rfl) q_2016 q_96 (by omega) rfl (Nat.le_of_ble_eq_true rfl) (Nat.zero_le _) (Nat.zero_le _) dX12_unitPrice_15 rfl (fun r2 => ?_)
  refine g_isub 19 hX dX12_unitPrice_18 rfl ?_
  refine g_callS_ip 22 hX (k_X12_greater l g N M 1 (((kI M (kR M a0 0) (kx 2)) + r1) - r2)) lk_X12_greater q_1969 (by omega) rfl (Nat.le_of_ble_eq_true rfl) (Nat.zero_le _) (Nat.zero_le _) dX12_unitPrice_19 rfl (fun r3 => ?_)
  exact g_iret hX hr rfl (Nat.le_refl 0) (Nat.le_refl 0) dX12_unitPrice_22
set_option maxRecDepth 100000 in
set_option maxHeartbeats 4000000 in
theorem k_X12_isTooMuch (l : Launch) (g : kG) (N : Nat) (M : kMem) (a0 : Nat) (x1 : Int32) (x2 : Int32) : kMet l g yX12_isTooMuch cX12_isTooMuch 3 (some .boolean) 3 0 0 [.ref a0, .int x1, .int x2] M (fun r : Int32 => (some (.int r), M)) (F_X12_isTooMuch N M a0 x1 x2) := by
  refine k_of (lv := [(0, .ref a0), (1, .int x1), (2, .int x2)]) RX12 (by decide) rfl rfl (Nat.le_of_ble_eq_true rfl) ?_
  intro p e s m args below meth c hX hr _
  unfold F_X12_isTooMuch
  refine g_iload_n 1 2 hX dX12_isTooMuch_0 rfl rfl ?_
  refine g_callS_ip 4 hX (k_X12_bare l g N M x2) lk_X12_bare q_1954 (by omega) rfl (Nat.le_of_ble_eq_true rfl) (Nat.zero_le _) (Nat.zero_le _) dX12_isTooMuch_1 rfl (fun r1 => ?_)
  refine g_aload_n 5 0 hX dX12_isTooMuch_4 rfl rfl ?_
  refine g_iload_n 6 1 hX dX12_isTooMuch_5 rfl rfl ?_
  refine g_iconst 7 hX 2 dX12_isTooMuch_6 rfl kc_i_2 ?_
  refine g_callV_ip 10 hX (k_X12_ofBoard l g N M a0 x1 2) lk_X12_ofBoard rfl (ci := 12) rfl (Nat.le_of_ble_eq_true rfl) q_1867 q_64 (by omega) rfl (Nat.le_of_ble_eq_true rfl) (Nat.zero_le _) (Nat.zero_le _) dX12_isTooMuch_7 rfl (fun r2 => ?_)
  refine g_icmp_le 17 13 hX dX12_isTooMuch_10 (by decide) rfl (fun _ => ?_) (fun _ => ?_)
  · refine g_iconst 18 hX 0 dX12_isTooMuch_17 rfl kc_i_0 ?_
    exact g_zretL hX hr rfl rfl (Nat.le_refl 0) (Nat.le_refl 0) dX12_isTooMuch_18
  · refine g_iconst 14 hX 1 dX12_isTooMuch_13 rfl kc_i_1 ?_
    refine g_goto 18 hX dX12_isTooMuch_14 (by decide) ?_
    exact g_zretL hX hr rfl rfl (Nat.le_refl 0) (Nat.le_refl 0) dX12_isTooMuch_18
set_option maxRecDepth 100000 in
set_option maxHeartbeats 4000000 in
theorem k_X12_torqueWith (l : Launch) (g : kG) (N : Nat) (M : kMem) (a0 : Nat) (x1 : Int32) (x2 : Int32) (x3 : Int32) : kMet l g yX12_torqueWith cX12_torqueWith 5 (some .int) 5 0 0 [.ref a0, .int x1, .int x2, .int x3] M (fun r : Int32 => (some (.int r), M)) (F_X12_torqueWith N M a0 x1 x2 x3) := by
  refine k_of (lv := [(0, .ref a0), (1, .int x1), (2, .int x2), (3, .int x3)]) RX12 (by decide) rfl rfl (Nat.le_of_ble_eq_true rfl) ?_
  intro p e s m args below meth c hX hr _
  unfold F_X12_torqueWith
  refine g_aload_n 1 0 hX dX12_torqueWith_0 rfl rfl ?_
  refine g_iload_n 2 2 hX dX12_torqueWith_1 rfl rfl ?_
  refine g_callV_ip 5 hX (k_X12_torqueOf l g N M a0 x2) lk_X12_torqueOf rfl (ci := 12) rfl (Nat.le_of_ble_eq_true rfl) q_1961 q_83 (by omega) rfl (Nat.le_of_ble_eq_true rfl) (Nat.zero_le _) (Nat.zero_le _) dX12_torqueWith_2 rfl (fun r1 => ?_)
  refine g_iload_n 6 3 hX dX12_torqueWith_5 rfl rfl ?_
  refine g_aload_n 7 0 hX dX12_torqueWith_6 rfl rfl ?_
  refine g_iload_n 8 1 hX dX12_torqueWith_7 rfl rfl ?_
  refine g_iconst 9 hX 1 dX12_torqueWith_8 rfl kc_i_1 ?_
  refine g_callV_ip 12 hX (k_X12_has l g N M a0 x1 1) lk_X12_has rfl (ci := 12) rfl (Nat.le_of_ble_eq_true rfl) q_1635 q_40 (by omega) rfl (Nat.le_of_ble_eq_true rfl) (Nat.zero_le _) (Nat.zero_le _) dX12_torqueWith_9 rfl (fun r2 => ?_)
  refine g_imul 13 hX dX12_torqueWith_12 rfl ?_
  refine g_iadd 14 hX dX12_torqueWith_13 rfl ?_
  refine g_klI (fun v3 hv3 => ?_)
  refine g_istore 16 4 [(4, .int v3), (0, .ref a0), (1, .int x1), (2, .int x2), (3, .int x3)] hX dX12_torqueWith_14 rfl (Nat.le_of_ble_eq_true rfl) rfl ?_
  refine g_aload_n 17 1 hX dX12_torqueWith_16 rfl rfl ?_
  refine g_iload_n 18 2 hX dX12_torqueWith_17 rfl rfl ?_
  refine g_iconst 19 hX 5 dX12_torqueWith_18 rfl kc_i_5 ?_
  refine g_callV_ip 22 hX (k_X12_has l g N M a0 x1 5) lk_X12_has rfl (ci := 12) rfl (Nat.le_of_ble_eq_true rfl) q_1635 q_40 (by omega) rfl (Nat.le_of_ble_eq_true rfl) (Nat.zero_le _) (Nat.zero_le _) dX12_torqueWith_19 rfl (fun r4 => ?_)
  refine g_iload_n 23 3 hX dX12_torqueWith_22 rfl rfl ?_
  refine g_icmp_ne 46 26 hX dX12_torqueWith_23 (by decide) rfl (fun _ => ?_) (fun _ => ?_)
  · refine g_iload 48 0 hX dX12_torqueWith_46 rfl rfl ?_
    exact g_iret hX hr rfl (Nat.le_refl 0) (Nat.le_refl 0) dX12_torqueWith_48
  · refine g_iload 28 0 hX dX12_torqueWith_26 rfl rfl ?_
    refine g_aload_n 29 1 hX dX12_torqueWith_28 rfl rfl ?_
    refine g_iload_n 30 2 hX dX12_torqueWith_29 rfl rfl ?_
    refine g_bipush 32 hX 6 dX12_torqueWith_30 rfl kc_b_6 ?_
    refine g_callV_ip 35 hX (k_X12_has l g N M a0 x1 6) lk_X12_has rfl (ci := 12) rfl (Nat.le_of_ble_eq_true rfl) q_1635 q_40 (by omega) rfl (Nat.le_of_ble_eq_true rfl) (Nat.zero_le _) (Nat.zero_le _) dX12_torqueWith_32 rfl (fun r5 => ?_)
    refine g_aload_n 36 1 hX dX12_torqueWith_35 rfl rfl ?_
    refine g_iload_n 37 2 hX dX12_torqueWith_36 rfl rfl ?_
    refine g_iconst 38 hX 1 dX12_torqueWith_37 rfl kc_i_1 ?_
    refine g_callV_ip 41 hX (k_X12_has l g N M a0 x1 1) lk_X12_has rfl (ci := 12) rfl (Nat.le_of_ble_eq_true rfl) q_1635 q_40 (by omega) rfl (Nat.le_of_ble_eq_true rfl) (Nat.zero_le _) (Nat.zero_le _) dX12_torqueWith_38 rfl (fun r6 => ?_)
    refine g_imul 42 hX dX12_torqueWith_41 rfl ?_
    refine g_isub 43 hX dX12_torqueWith_42 rfl ?_
    refine g_goto 48 hX dX12_torqueWith_43 (by decide) ?_
    exact g_iret hX hr rfl (Nat.le_refl 0) (Nat.le_refl 0) dX12_torqueWith_48
set_option maxRecDepth 100000 in
set_option maxHeartbeats 4000000 in
theorem k_X12_moves (l : Launch) (g : kG) (N : Nat) (M : kMem) (a0 : Nat) (x1 : Int32) (x2 : Int32) (x3 : Int32) : kMet l g yX12_moves cX12_moves 5 none 2 0 0 [.ref a0, .int x1, .int x2, .int x3] M (fun r : kMem => (none, r)) (F_X12_moves N M a0 x1 x2 x3) := by
  refine k_of (lv := [(0, .ref a0), (1, .int x1), (2, .int x2), (3, .int x3)]) RX12 (by decide) rfl rfl (Nat.le_of_ble_eq_true rfl) ?_
  intro p e s m args below meth c hX hr _
  unfold F_X12_moves
  refine g_iload_n 1 3 hX dX12_moves_0 rfl rfl ?_
  refine g_aload_n 2 0 hX dX12_moves_1 rfl rfl ?_
  refine r_X12_7 5 hX dX12_moves_2 rfl ?_
  refine g_iload_n 6 1 hX dX12_moves_5 rfl rfl ?_
  refine g_iald 7 hX dX12_moves_6 rfl ?_
  refine g_callS_ip 10 hX (k_X12_lesser l g N M x3 (kI M (kR M a0 0) (kx x1))) lk_X12_lesser q_1849 (by omega) rfl (Nat.le_of_ble_eq_true rfl) (Nat.zero_le _) (Nat.zero_le _) dX12_moves_7 rfl (fun r1 => ?_)
  refine g_istore 12 4 [(4, .int r1), (0, .ref a0), (1, .int x1), (2, .int x2), (3, .int x3)] hX dX12_moves_10 rfl (Nat.le_of_ble_eq_true rfl) rfl ?_
  refine g_aload_n 13 1 hX dX12_moves_12 rfl rfl ?_
  refine r_X12_7 16 hX dX12_moves_13 rfl ?_
  refine g_iload_n 17 2 hX dX12_moves_16 rfl rfl ?_
  refine g_dup2 18 hX dX12_moves_17 rfl rfl rfl ?_
  refine g_iald 19 hX dX12_moves_18 rfl ?_
  refine g_iload 21 0 hX dX12_moves_19 rfl rfl ?_
  refine g_isub 22 hX dX12_moves_21 rfl ?_
  refine g_iast 23 hX dX12_moves_22 rfl ?_
  refine g_klM (fun M2 hM2 => ?_)
  refine g_aload_n 24 1 hX dX12_moves_23 rfl rfl ?_
  refine r_X12_7 27 hX dX12_moves_24 rfl ?_
  refine g_iload_n 28 3 hX dX12_moves_27 rfl rfl ?_
  refine g_dup2 29 hX dX12_moves_28 rfl rfl rfl ?_
  refine g_iald 30 hX dX12_moves_29 rfl ?_
  refine g_iload 32 0 hX dX12_moves_30 rfl rfl ?_
  refine g_iadd 33 hX dX12_moves_32 rfl ?_
  refine g_iast 34 hX dX12_moves_33 rfl ?_
  refine g_klM (fun M3 hM3 => ?_)
  exact g_vret hX hr rfl (Nat.le_refl 0) (Nat.le_refl 0) dX12_moves_34
set_option maxRecDepth 100000 in
set_option maxHeartbeats 4000000 in
theorem k_X12_earns_2 {p : Program} {l : Launch} {e : Env} {s : State} {m : MethodId} {args : Array Value} {below : List Frame} {meth : Method} {c : Code} {g : kG} (hX : Cok (p, l, e, { frames := 2 * 7, cells := 0, slots := 0, locals := 60 * 7 }, s, m, args, below, meth, c, cX12_earns, 3, RX12, g, 7)) (hr : meth.sig.returnType = none) (N : Nat) : ∀ (n : Nat) (M : kMem) (a0 : Nat) (x1 : Int32), GG (p, l, e, { frames := 2 * 7, cells := 0, slots := 0, locals := 60 * 7 }, s, m, args, below, meth, c, cX12_earns, 3, RX12, g, 7) (fun b => MQ below (kQ g ((fun r : kMem => (none, r)) b)) args s 0 0 (kZ g.2.2.1)) 0 0 (F_X12_earns_2 N n M a0 x1) 2 [(0, .ref a0), (1, .int x1)] [] M := by
  intro n
  induction n with
  | zero => intro _ _ _; exact g_none
  | succ n ih =>
    intro M a0 x1
    unfold F_X12_earns_2
    refine g_iload_n 3 1 hX dX12_earns_2 rfl rfl ?_
    refine g_aload_n 4 0 hX dX12_earns_3 rfl rfl ?_
    refine r_X12_7 7 hX dX12_earns_4 rfl ?_
    refine g_bipush 9 hX 8 dX12_earns_7 rfl kc_b_8 ?_
    refine g_iald 10 hX dX12_earns_9 rfl ?_
    refine g_icmp_ge 73 13 hX dX12_earns_10 (by decide) rfl (fun _ => ?_) (fun _ => ?_)
    · exact g_vret hX hr rfl (Nat.le_refl 0) (Nat.le_refl 0) dX12_earns_73
    · refine g_aload_n 14 0 hX dX12_earns_13 rfl rfl ?_
      refine g_iload_n 15 1 hX dX12_earns_14 rfl rfl ?_
      refine g_callV_ip 18 hX (k_X12_isSeated l g N M a0 x1) lk_X12_isSeated rfl (ci := 12) rfl (Nat.le_of_ble_eq_true rfl) q_1857 q_62 (by omega) rfl (Nat.le_of_ble_eq_true rfl) (Nat.zero_le _) (Nat.zero_le _) dX12_earns_15 rfl (fun r1 => ?_)
      refine g_if_ne 24 21 hX dX12_earns_18 (by decide) rfl (fun _ => ?_) (fun _ => ?_)
      · refine g_aload_n 25 0 hX dX12_earns_24 rfl rfl ?_
        refine r_X12_7 28 hX dX12_earns_25 rfl ?_
        refine g_iconst 29 hX 0 dX12_earns_28 rfl kc_i_0 ?_
        refine g_iald 30 hX dX12_earns_29 rfl ?_
        refine g_aload_n 31 0 hX dX12_earns_30 rfl rfl ?_
        refine g_iload_n 32 1 hX dX12_earns_31 rfl rfl ?_
        refine g_callV_ip 35 hX (k_X12_ownHeight l g N M a0 x1) lk_X12_ownHeight rfl (ci := 12) rfl (Nat.le_of_ble_eq_true rfl) q_2016 q_96 (by omega) rfl (Nat.le_of_ble_eq_true rfl) (Nat.zero_le _) (Nat.zero_le _) dX12_earns_32 rfl (fun r2 => ?_)
        refine g_iadd 36 hX dX12_earns_35 rfl ?_
        refine g_klI (fun v3 hv3 => ?_)
        refine g_istore_n 37 2 [(2, .int v3), (0, .ref a0), (1, .int x1)] hX dX12_earns_36 rfl rfl (Nat.le_of_ble_eq_true rfl) rfl ?_
        refine g_iload_n 38 0 hX dX12_earns_37 rfl rfl ?_
        refine g_if_le 55 41 hX dX12_earns_38 (by decide) rfl (fun _ => ?_) (fun _ => ?_)
        · refine g_aload_n 56 1 hX dX12_earns_55 rfl rfl ?_
          refine g_iload_n 57 2 hX dX12_earns_56 rfl rfl ?_
          refine g_iconst 58 hX 2 dX12_earns_57 rfl kc_i_2 ?_
          refine g_callS_ip 61 hX (k_X12_atTrader l g N M x1 2) lk_X12_atTrader q_1621 (by omega) rfl (Nat.le_of_ble_eq_true rfl) (Nat.zero_le _) (Nat.zero_le _) dX12_earns_58 rfl (fun r4 => ?_)
          refine g_iconst 62 hX 5 dX12_earns_61 rfl kc_i_5 ?_
          refine g_iload_n 63 0 hX dX12_earns_62 rfl rfl ?_
          refine g_ineg 64 hX dX12_earns_63 rfl ?_
          refine g_callV_v 67 hX (k_X12_moves l g N M a0 r4 5 (-v3)) lk_X12_moves rfl (ci := 12) rfl (Nat.le_of_ble_eq_true rfl) q_1984 q_88 (by omega) rfl (Nat.le_of_ble_eq_true rfl) (Nat.zero_le _) (Nat.zero_le _) dX12_earns_64 rfl (fun M5 => ?_)
          refine g_kl (fun v6 hv6 => ?_)
          refine g_iinc 70 1 2 v6 [(1, .int v6), (2, .int v3), (0, .ref a0)] hX dX12_earns_67 rfl rfl (by rw [hv6, kc_i_1]) (Nat.le_of_ble_eq_true rfl) rfl ?_
          refine g_goto 2 hX dX12_earns_70 (by decide) ?_
          refine g_lv [2, 0] rfl ?_
          exact ih M5 a0 v6
        · refine g_aload_n 42 1 hX dX12_earns_41 rfl rfl ?_
          refine g_iconst 43 hX 5 dX12_earns_42 rfl kc_i_5 ?_
          refine g_iload_n 44 2 hX dX12_earns_43 rfl rfl ?_
          refine g_iconst 45 hX 2 dX12_earns_44 rfl kc_i_2 ?_
          refine g_callS_ip 48 hX (k_X12_atTrader l g N M x1 2) lk_X12_atTrader q_1621 (by omega) rfl (Nat.le_of_ble_eq_true rfl) (Nat.zero_le _) (Nat.zero_le _) dX12_earns_45 rfl (fun r7 => ?_)
          refine g_iload_n 49 0 hX dX12_earns_48 rfl rfl ?_
          refine g_callV_v 52 hX (k_X12_moves l g N M a0 5 r7 v3) lk_X12_moves rfl (ci := 12) rfl (Nat.le_of_ble_eq_true rfl) q_1984 q_88 (by omega) rfl (Nat.le_of_ble_eq_true rfl) (Nat.zero_le _) (Nat.zero_le _) dX12_earns_49 rfl (fun M8 => ?_)
          refine g_goto 67 hX dX12_earns_52 (by decide) ?_
          refine g_kl (fun v9 hv9 => ?_)
          refine g_iinc 70 1 2 v9 [(1, .int v9), (2, .int v3), (0, .ref a0)] hX dX12_earns_67 rfl rfl (by rw [hv9, kc_i_1]) (Nat.le_of_ble_eq_true rfl) rfl ?_
          refine g_goto 2 hX dX12_earns_70 (by decide) ?_
          refine g_lv [2, 0] rfl ?_
          exact ih M8 a0 v9
      · refine g_goto 67 hX dX12_earns_21 (by decide) ?_
        refine g_kl (fun v10 hv10 => ?_)
        refine g_iinc 70 1 1 v10 [(1, .int v10), (0, .ref a0)] hX dX12_earns_67 rfl rfl (by rw [hv10, kc_i_1]) (Nat.le_of_ble_eq_true rfl) rfl ?_
        refine g_goto 2 hX dX12_earns_70 (by decide) ?_
        refine g_lv [1, 0] rfl ?_
        exact ih M a0 v10
set_option maxRecDepth 100000 in
set_option maxHeartbeats 4000000 in
theorem k_X12_earns (l : Launch) (g : kG) (N : Nat) (M : kMem) (a0 : Nat) : kMet l g yX12_earns cX12_earns 3 none 7 0 0 [.ref a0] M (fun r : kMem => (none, r)) (F_X12_earns N M a0) := by
  refine k_of (lv := [(0, .ref a0)]) RX12 (by decide) rfl rfl (Nat.le_of_ble_eq_true rfl) ?_
  intro p e s m args below meth c hX hr _
  unfold F_X12_earns
  refine g_iconst 1 hX 0 dX12_earns_0 rfl kc_i_0 ?_
  refine g_istore_n 2 1 [(1, .int 0), (0, .ref a0)] hX dX12_earns_1 rfl rfl (Nat.le_of_ble_eq_true rfl) rfl ?_
  refine g_lv [1, 0] rfl ?_
  exact k_X12_earns_2 hX hr N N M a0 0
set_option maxRecDepth 100000 in
set_option maxHeartbeats 4000000 in
theorem k_X12_records_3 {p : Program} {l : Launch} {e : Env} {s : State} {m : MethodId} {args : Array Value} {below : List Frame} {meth : Method} {c : Code} {g : kG} (hX : Cok (p, l, e, { frames := 2 * 2, cells := 0, slots := 0, locals := 60 * 2 }, s, m, args, below, meth, c, cX12_records, 4, RX12, g, 2)) (hr : meth.sig.returnType = none) (N : Nat) : ∀ (n : Nat) (M : kMem) (a0 : Nat) (x1 : Int32) (x2 : Int32) (x3 : Int32), GG (p, l, e, { frames := 2 * 2, cells := 0, slots := 0, locals := 60 * 2 }, s, m, args, below, meth, c, cX12_records, 4, RX12, g, 2) (fun b => MQ below (kQ g ((fun r : kMem => (none, r)) b)) args s 0 0 (kZ g.2.2.1)) 0 0 (F_X12_records_3 N n M a0 x1 x2 x3) 3 [(0, .ref a0), (1, .int x1), (2, .int x2), (3, .int x3)] [] M := by
  intro n
  induction n with
  | zero => intro _ _ _ _ _; exact g_none
  | succ n ih =>
    intro M a0 x1 x2 x3
    unfold F_X12_records_3
    refine g_iload_n 4 3 hX dX12_records_3 rfl rfl ?_
    refine g_if_lt 35 7 hX dX12_records_4 (by decide) rfl (fun _ => ?_) (fun _ => ?_)
    · refine g_aload_n 36 0 hX dX12_records_35 rfl rfl ?_
      refine r_X12_7 39 hX dX12_records_36 rfl ?_
      refine g_sipush 42 hX 257 dX12_records_39 rfl kc_s_257 ?_
      refine g_iload_n 43 1 hX dX12_records_42 rfl rfl ?_
      refine g_iast 44 hX dX12_records_43 rfl ?_
      refine g_klM (fun M1 hM1 => ?_)
      refine g_aload_n 45 0 hX dX12_records_44 rfl rfl ?_
      refine r_X12_7 48 hX dX12_records_45 rfl ?_
      refine g_sipush 51 hX 258 dX12_records_48 rfl kc_s_258 ?_
      refine g_iload_n 52 2 hX dX12_records_51 rfl rfl ?_
      refine g_iast 53 hX dX12_records_52 rfl ?_
      refine g_klM (fun M2 hM2 => ?_)
      refine g_aload_n 54 0 hX dX12_records_53 rfl rfl ?_
      refine r_X12_7 57 hX dX12_records_54 rfl ?_
      refine g_sipush 60 hX 259 dX12_records_57 rfl kc_s_259 ?_
      refine g_aload_n 61 0 hX dX12_records_60 rfl rfl ?_
      refine r_X12_7 64 hX dX12_records_61 rfl ?_
      refine g_bipush 66 hX 6 dX12_records_64 rfl kc_b_6 ?_
      refine g_iald 67 hX dX12_records_66 rfl ?_
      refine g_iast 68 hX dX12_records_67 rfl ?_
      refine g_klM (fun M3 hM3 => ?_)
      refine g_aload_n 69 0 hX dX12_records_68 rfl rfl ?_
      refine r_X12_7 72 hX dX12_records_69 rfl ?_
      refine g_bipush 74 hX 13 dX12_records_72 rfl kc_b_13 ?_
      refine g_bipush 76 hX 12 dX12_records_74 rfl kc_b_12 ?_
      refine g_aload_n 77 0 hX dX12_records_76 rfl rfl ?_
      refine r_X12_7 80 hX dX12_records_77 rfl ?_
      refine g_bipush 82 hX 13 dX12_records_80 rfl kc_b_13 ?_
      refine g_iald 83 hX dX12_records_82 rfl ?_
      refine g_iconst 84 hX 1 dX12_records_83 rfl kc_i_1 ?_
      refine g_iadd 85 hX dX12_records_84 rfl ?_
      refine g_callS_ip 88 hX (k_X12_lesser l g N M3 12 ((kI M3 (kR M3 a0 0) (kx 13)) + 1)) lk_X12_lesser q_1849 (by omega) rfl (Nat.le_of_ble_eq_true rfl) (Nat.zero_le _) (Nat.zero_le _) dX12_records_85 rfl (fun r4 => ?_)
      refine g_iast 89 hX dX12_records_88 rfl ?_
      refine g_klM (fun M5 hM5 => ?_)
      exact g_vret hX hr rfl (Nat.le_refl 0) (Nat.le_refl 0) dX12_records_89
    · refine g_aload_n 8 0 hX dX12_records_7 rfl rfl ?_
      refine r_X12_7 11 hX dX12_records_8 rfl ?_
      refine g_sipush 14 hX 257 dX12_records_11 rfl kc_s_257 ?_
      refine g_iload_n 15 3 hX dX12_records_14 rfl rfl ?_
      refine g_iadd 16 hX dX12_records_15 rfl ?_
      refine g_iconst 17 hX 3 dX12_records_16 rfl kc_i_3 ?_
      refine g_iadd 18 hX dX12_records_17 rfl ?_
      refine g_aload_n 19 0 hX dX12_records_18 rfl rfl ?_
      refine r_X12_7 22 hX dX12_records_19 rfl ?_
      refine g_sipush 25 hX 257 dX12_records_22 rfl kc_s_257 ?_
      refine g_iload_n 26 3 hX dX12_records_25 rfl rfl ?_
      refine g_iadd 27 hX dX12_records_26 rfl ?_
      refine g_iald 28 hX dX12_records_27 rfl ?_
      refine g_iast 29 hX dX12_records_28 rfl ?_
      refine g_klM (fun M6 hM6 => ?_)
      refine g_kl (fun v7 hv7 => ?_)
      refine g_iinc 32 3 3 v7 [(3, .int v7), (0, .ref a0), (1, .int x1), (2, .int x2)] hX dX12_records_29 rfl rfl (by rw [hv7, kc_i_m1]) (Nat.le_of_ble_eq_true rfl) rfl ?_
      refine g_goto 3 hX dX12_records_32 (by decide) ?_
      refine g_lv [1, 2, 3, 0] rfl ?_
      exact ih M6 a0 x1 x2 v7
set_option maxRecDepth 100000 in
set_option maxHeartbeats 4000000 in
theorem k_X12_records (l : Launch) (g : kG) (N : Nat) (M : kMem) (a0 : Nat) (x1 : Int32) (x2 : Int32) : kMet l g yX12_records cX12_records 4 none 2 0 0 [.ref a0, .int x1, .int x2] M (fun r : kMem => (none, r)) (F_X12_records N M a0 x1 x2) := by
  refine k_of (lv := [(0, .ref a0), (1, .int x1), (2, .int x2)]) RX12 (by decide) rfl rfl (Nat.le_of_ble_eq_true rfl) ?_
  intro p e s m args below meth c hX hr _
  unfold F_X12_records
  refine g_bipush 2 hX 32 dX12_records_0 rfl kc_b_32 ?_
  refine g_istore_n 3 3 [(3, .int 32), (0, .ref a0), (1, .int x1), (2, .int x2)] hX dX12_records_2 rfl rfl (Nat.le_of_ble_eq_true rfl) rfl ?_
  refine g_lv [1, 2, 3, 0] rfl ?_
  exact k_X12_records_3 hX hr N N M a0 x1 x2 32
set_option maxRecDepth 100000 in
set_option maxHeartbeats 4000000 in
theorem k_X12_ages_2 {p : Program} {l : Launch} {e : Env} {s : State} {m : MethodId} {args : Array Value} {below : List Frame} {meth : Method} {c : Code} {g : kG} (hX : Cok (p, l, e, { frames := 2 * 5, cells := 0, slots := 0, locals := 60 * 5 }, s, m, args, below, meth, c, cX12_ages, 2, RX12, g, 5)) (hr : meth.sig.returnType = none) (N : Nat) : ∀ (n : Nat) (M : kMem) (a0 : Nat) (x1 : Int32), GG (p, l, e, { frames := 2 * 5, cells := 0, slots := 0, locals := 60 * 5 }, s, m, args, below, meth, c, cX12_ages, 2, RX12, g, 5) (fun b => MQ below (kQ g ((fun r : kMem => (none, r)) b)) args s 0 0 (kZ g.2.2.1)) 0 0 (F_X12_ages_2 N n M a0 x1) 2 [(0, .ref a0), (1, .int x1)] [] M := by
  intro n
  induction n with
  | zero => intro _ _ _; exact g_none
  | succ n ih =>
    intro M a0 x1
    unfold F_X12_ages_2
    refine g_iload_n 3 1 hX dX12_ages_2 rfl rfl ?_
    refine g_aload_n 4 0 hX dX12_ages_3 rfl rfl ?_
    refine r_X12_7 7 hX dX12_ages_4 rfl ?_
    refine g_bipush 9 hX 8 dX12_ages_7 rfl kc_b_8 ?_
    refine g_iald 10 hX dX12_ages_9 rfl ?_
    refine g_icmp_ge 98 13 hX dX12_ages_10 (by decide) rfl (fun _ => ?_) (fun _ => ?_)
    · exact g_vret hX hr rfl (Nat.le_refl 0) (Nat.le_refl 0) dX12_ages_98
    · refine g_aload_n 14 0 hX dX12_ages_13 rfl rfl ?_
      refine g_iload_n 15 1 hX dX12_ages_14 rfl rfl ?_
      refine g_iconst 16 hX 4 dX12_ages_15 rfl kc_i_4 ?_
      refine g_callV_ip 19 hX (k_X12_has l g N M a0 x1 4) lk_X12_has rfl (ci := 12) rfl (Nat.le_of_ble_eq_true rfl) q_1635 q_40 (by omega) rfl (Nat.le_of_ble_eq_true rfl) (Nat.zero_le _) (Nat.zero_le _) dX12_ages_16 rfl (fun r1 => ?_)
      refine g_if_ne 25 22 hX dX12_ages_19 (by decide) rfl (fun _ => ?_) (fun _ => ?_)
      · refine g_aload_n 26 0 hX dX12_ages_25 rfl rfl ?_
        refine r_X12_7 29 hX dX12_ages_26 rfl ?_
        refine g_iload_n 30 1 hX dX12_ages_29 rfl rfl ?_
        refine g_iconst 31 hX 3 dX12_ages_30 rfl kc_i_3 ?_
        refine g_callS_ip 34 hX (k_X12_atTrader l g N M x1 3) lk_X12_atTrader q_1621 (by omega) rfl (Nat.le_of_ble_eq_true rfl) (Nat.zero_le _) (Nat.zero_le _) dX12_ages_31 rfl (fun r2 => ?_)
        refine g_dup2 35 hX dX12_ages_34 rfl rfl rfl ?_
        refine g_iald 36 hX dX12_ages_35 rfl ?_
        refine g_iconst 37 hX 1 dX12_ages_36 rfl kc_i_1 ?_
        refine g_iadd 38 hX dX12_ages_37 rfl ?_
        refine g_iast 39 hX dX12_ages_38 rfl ?_
        refine g_klM (fun M3 hM3 => ?_)
        refine g_aload_n 40 0 hX dX12_ages_39 rfl rfl ?_
        refine g_iload_n 41 1 hX dX12_ages_40 rfl rfl ?_
        refine g_iconst 42 hX 3 dX12_ages_41 rfl kc_i_3 ?_
        refine g_callV_ip 45 hX (k_X12_has l g N M3 a0 x1 3) lk_X12_has rfl (ci := 12) rfl (Nat.le_of_ble_eq_true rfl) q_1635 q_40 (by omega) rfl (Nat.le_of_ble_eq_true rfl) (Nat.zero_le _) (Nat.zero_le _) dX12_ages_42 rfl (fun r4 => ?_)
        refine g_aload_n 46 0 hX dX12_ages_45 rfl rfl ?_
        refine r_X12_7 49 hX dX12_ages_46 rfl ?_
        refine g_iconst 50 hX 3 dX12_ages_49 rfl kc_i_3 ?_
        refine g_iald 51 hX dX12_ages_50 rfl ?_
        refine g_icmp_le 92 54 hX dX12_ages_51 (by decide) rfl (fun _ => ?_) (fun _ => ?_)
        · refine g_kl (fun v5 hv5 => ?_)
          refine g_iinc 95 1 1 v5 [(1, .int v5), (0, .ref a0)] hX dX12_ages_92 rfl rfl (by rw [hv5, kc_i_1]) (Nat.le_of_ble_eq_true rfl) rfl ?_
          refine g_goto 2 hX dX12_ages_95 (by decide) ?_
          refine g_lv [1, 0] rfl ?_
          exact ih M3 a0 v5
        · refine g_aload_n 55 0 hX dX12_ages_54 rfl rfl ?_
          refine g_iload_n 56 1 hX dX12_ages_55 rfl rfl ?_
          refine g_callV_v 59 hX (k_X12_rises l g N M3 a0 x1) lk_X12_rises rfl (ci := 12) rfl (Nat.le_of_ble_eq_true rfl) q_1988 q_89 (by omega) rfl (Nat.le_of_ble_eq_true rfl) (Nat.zero_le _) (Nat.zero_le _) dX12_ages_56 rfl (fun M6 => ?_)
          refine g_aload_n 60 0 hX dX12_ages_59 rfl rfl ?_
          refine g_iload_n 61 1 hX dX12_ages_60 rfl rfl ?_
          refine g_iconst 62 hX 2 dX12_ages_61 rfl kc_i_2 ?_
          refine g_callS_ip 65 hX (k_X12_atTrader l g N M6 x1 2) lk_X12_atTrader q_1621 (by omega) rfl (Nat.le_of_ble_eq_true rfl) (Nat.zero_le _) (Nat.zero_le _) dX12_ages_62 rfl (fun r7 => ?_)
          refine g_iconst 66 hX 5 dX12_ages_65 rfl kc_i_5 ?_
          refine g_aload_n 67 0 hX dX12_ages_66 rfl rfl ?_
          refine g_iload_n 68 1 hX dX12_ages_67 rfl rfl ?_
          refine g_iconst 69 hX 2 dX12_ages_68 rfl kc_i_2 ?_
          refine g_callV_ip 72 hX (k_X12_has l g N M6 a0 x1 2) lk_X12_has rfl (ci := 12) rfl (Nat.le_of_ble_eq_true rfl) q_1635 q_40 (by omega) rfl (Nat.le_of_ble_eq_true rfl) (Nat.zero_le _) (Nat.zero_le _) dX12_ages_69 rfl (fun r8 => ?_)
          refine g_callV_v 75 hX (k_X12_moves l g N M6 a0 r7 5 r8) lk_X12_moves rfl (ci := 12) rfl (Nat.le_of_ble_eq_true rfl) q_1984 q_88 (by omega) rfl (Nat.le_of_ble_eq_true rfl) (Nat.zero_le _) (Nat.zero_le _) dX12_ages_72 rfl (fun M9 => ?_)
          refine g_aload_n 76 0 hX dX12_ages_75 rfl rfl ?_
          refine r_X12_7 79 hX dX12_ages_76 rfl ?_
          refine g_iload_n 80 1 hX dX12_ages_79 rfl rfl ?_
          refine g_iconst 81 hX 4 dX12_ages_80 rfl kc_i_4 ?_
          refine g_callS_ip 84 hX (k_X12_atTrader l g N M9 x1 4) lk_X12_atTrader q_1621 (by omega) rfl (Nat.le_of_ble_eq_true rfl) (Nat.zero_le _) (Nat.zero_le _) dX12_ages_81 rfl (fun r10 => ?_)
          refine g_iconst 85 hX 0 dX12_ages_84 rfl kc_i_0 ?_
          refine g_iast 86 hX dX12_ages_85 rfl ?_
          refine g_klM (fun M11 hM11 => ?_)
          refine g_aload_n 87 0 hX dX12_ages_86 rfl rfl ?_
          refine g_iconst 88 hX 2 dX12_ages_87 rfl kc_i_2 ?_
          refine g_iload_n 89 1 hX dX12_ages_88 rfl rfl ?_
          refine g_callV_v 92 hX (k_X12_records l g N M11 a0 2 x1) lk_X12_records rfl (ci := 12) rfl (Nat.le_of_ble_eq_true rfl) q_2060 q_107 (by omega) rfl (Nat.le_of_ble_eq_true rfl) (Nat.zero_le _) (Nat.zero_le _) dX12_ages_89 rfl (fun M12 => ?_)
          refine g_kl (fun v13 hv13 => ?_)
          refine g_iinc 95 1 1 v13 [(1, .int v13), (0, .ref a0)] hX dX12_ages_92 rfl rfl (by rw [hv13, kc_i_1]) (Nat.le_of_ble_eq_true rfl) rfl ?_
          refine g_goto 2 hX dX12_ages_95 (by decide) ?_
          refine g_lv [1, 0] rfl ?_
          exact ih M12 a0 v13
      · refine g_goto 92 hX dX12_ages_22 (by decide) ?_
        refine g_kl (fun v14 hv14 => ?_)
        refine g_iinc 95 1 1 v14 [(1, .int v14), (0, .ref a0)] hX dX12_ages_92 rfl rfl (by rw [hv14, kc_i_1]) (Nat.le_of_ble_eq_true rfl) rfl ?_
        refine g_goto 2 hX dX12_ages_95 (by decide) ?_
        refine g_lv [1, 0] rfl ?_
        exact ih M a0 v14
set_option maxRecDepth 100000 in
set_option maxHeartbeats 4000000 in
theorem k_X12_ages (l : Launch) (g : kG) (N : Nat) (M : kMem) (a0 : Nat) : kMet l g yX12_ages cX12_ages 2 none 5 0 0 [.ref a0] M (fun r : kMem => (none, r)) (F_X12_ages N M a0) := by
  refine k_of (lv := [(0, .ref a0)]) RX12 (by decide) rfl rfl (Nat.le_of_ble_eq_true rfl) ?_
  intro p e s m args below meth c hX hr _
  unfold F_X12_ages
  refine g_iconst 1 hX 0 dX12_ages_0 rfl kc_i_0 ?_
  refine g_istore_n 2 1 [(1, .int 0), (0, .ref a0)] hX dX12_ages_1 rfl rfl (Nat.le_of_ble_eq_true rfl) rfl ?_
  refine g_lv [1, 0] rfl ?_
  exact k_X12_ages_2 hX hr N N M a0 0
set_option maxRecDepth 100000 in
set_option maxHeartbeats 4000000 in
theorem k_X12_tips_36 {p : Program} {l : Launch} {e : Env} {s : State} {m : MethodId} {args : Array Value} {below : List Frame} {meth : Method} {c : Code} {g : kG} (hX : Cok (p, l, e, { frames := 2 * 5, cells := 0, slots := 0, locals := 60 * 5 }, s, m, args, below, meth, c, cX12_tips, 5, RX12, g, 5)) (hr : meth.sig.returnType = none) (N : Nat) (k6 : kMem → Nat → Int32 → Int32 → Option (kMem)) (h6 : ∀ (M : kMem) (a0 : Nat) (x1 : Int32) (x2 : Int32), GG (p, l, e, { frames := 2 * 5, cells := 0, slots := 0, locals := 60 * 5 }, s, m, args, below, meth, c, cX12_tips, 5, RX12, g, 5) (fun b => MQ below (kQ g ((fun r : kMem => (none, r)) b)) args s 0 0 (kZ g.2.2.1)) 0 0 (k6 M a0 x1 x2) 6 [(0, .ref a0), (1, .int x1), (2, .int x2)] [] M) : ∀ (n : Nat) (M : kMem) (a0 : Nat) (x1 : Int32) (x2 : Int32) (x3 : Int32), GG (p, l, e, { frames := 2 * 5, cells := 0, slots := 0, locals := 60 * 5 }, s, m, args, below, meth, c, cX12_tips, 5, RX12, g, 5) (fun b => MQ below (kQ g ((fun r : kMem => (none, r)) b)) args s 0 0 (kZ g.2.2.1)) 0 0 (F_X12_tips_36 N k6 n M a0 x1 x2 x3) 36 [(0, .ref a0), (1, .int x1), (2, .int x2), (3, .int x3)] [] M := by
  intro n
  induction n with
  | zero => intro _ _ _ _ _; exact g_none
  | succ n ih =>
    intro M a0 x1 x2 x3
    unfold F_X12_tips_36
    refine g_aload_n 37 0 hX dX12_tips_36 rfl rfl ?_
    refine g_iload_n 38 1 hX dX12_tips_37 rfl rfl ?_
    refine g_iload_n 39 3 hX dX12_tips_38 rfl rfl ?_
    refine g_callV_ip 42 hX (k_X12_onSeat l g N M a0 x1 x3) lk_X12_onSeat rfl (ci := 12) rfl (Nat.le_of_ble_eq_true rfl) q_1871 q_65 (by omega) rfl (Nat.le_of_ble_eq_true rfl) (Nat.zero_le _) (Nat.zero_le _) dX12_tips_39 rfl (fun r5 => ?_)
    refine g_iconst 43 hX (-1) dX12_tips_42 rfl kc_i_m1 ?_
    refine g_icmp_ne 61 46 hX dX12_tips_43 (by decide) rfl (fun _ => ?_) (fun _ => ?_)
    · refine g_aload_n 62 0 hX dX12_tips_61 rfl rfl ?_
      refine g_iload_n 63 1 hX dX12_tips_62 rfl rfl ?_
      refine g_iload_n 64 3 hX dX12_tips_63 rfl rfl ?_
      refine g_callV_ip 67 hX (k_X12_onSeat l g N M a0 x1 x3) lk_X12_onSeat rfl (ci := 12) rfl (Nat.le_of_ble_eq_true rfl) q_1871 q_65 (by omega) rfl (Nat.le_of_ble_eq_true rfl) (Nat.zero_le _) (Nat.zero_le _) dX12_tips_64 rfl (fun r6 => ?_)
      refine g_istore 69 4 [(4, .int r6), (0, .ref a0), (1, .int x1), (2, .int x2), (3, .int x3)] hX dX12_tips_67 rfl (Nat.le_of_ble_eq_true rfl) rfl ?_
      refine g_aload_n 70 1 hX dX12_tips_69 rfl rfl ?_
      refine g_iload 72 0 hX dX12_tips_70 rfl rfl ?_
      refine g_callV_v 75 hX (k_X12_rises l g N M a0 r6) lk_X12_rises rfl (ci := 12) rfl (Nat.le_of_ble_eq_true rfl) q_1988 q_89 (by omega) rfl (Nat.le_of_ble_eq_true rfl) (Nat.zero_le _) (Nat.zero_le _) dX12_tips_72 rfl (fun M7 => ?_)
      refine g_aload_n 76 1 hX dX12_tips_75 rfl rfl ?_
      refine g_iload 78 0 hX dX12_tips_76 rfl rfl ?_
      refine g_iconst 79 hX 2 dX12_tips_78 rfl kc_i_2 ?_
      refine g_callS_ip 82 hX (k_X12_atTrader l g N M7 r6 2) lk_X12_atTrader q_1621 (by omega) rfl (Nat.le_of_ble_eq_true rfl) (Nat.zero_le _) (Nat.zero_le _) dX12_tips_79 rfl (fun r8 => ?_)
      refine g_iconst 83 hX 5 dX12_tips_82 rfl kc_i_5 ?_
      refine g_aload_n 84 1 hX dX12_tips_83 rfl rfl ?_
      refine r_X12_7 87 hX dX12_tips_84 rfl ?_
      refine g_iconst 88 hX 4 dX12_tips_87 rfl kc_i_4 ?_
      refine g_iald 89 hX dX12_tips_88 rfl ?_
      refine g_callV_v 92 hX (k_X12_moves l g N M7 a0 r8 5 (kI M7 (kR M7 a0 0) (kx 4))) lk_X12_moves rfl (ci := 12) rfl (Nat.le_of_ble_eq_true rfl) q_1984 q_88 (by omega) rfl (Nat.le_of_ble_eq_true rfl) (Nat.zero_le _) (Nat.zero_le _) dX12_tips_89 rfl (fun M9 => ?_)
      refine g_aload_n 93 1 hX dX12_tips_92 rfl rfl ?_
      refine g_iconst 94 hX 1 dX12_tips_93 rfl kc_i_1 ?_
      refine g_iload 96 0 hX dX12_tips_94 rfl rfl ?_
      refine g_callV_v 99 hX (k_X12_records l g N M9 a0 1 r6) lk_X12_records rfl (ci := 12) rfl (Nat.le_of_ble_eq_true rfl) q_2060 q_107 (by omega) rfl (Nat.le_of_ble_eq_true rfl) (Nat.zero_le _) (Nat.zero_le _) dX12_tips_96 rfl (fun M10 => ?_)
      refine g_aload_n 100 1 hX dX12_tips_99 rfl rfl ?_
      refine r_X12_7 103 hX dX12_tips_100 rfl ?_
      refine g_bipush 105 hX 12 dX12_tips_103 rfl kc_b_12 ?_
      refine g_dup2 106 hX dX12_tips_105 rfl rfl rfl ?_
      refine g_iald 107 hX dX12_tips_106 rfl ?_
      refine g_iconst 108 hX 1 dX12_tips_107 rfl kc_i_1 ?_
      refine g_iadd 109 hX dX12_tips_108 rfl ?_
      refine g_iast 110 hX dX12_tips_109 rfl ?_
      refine g_klM (fun M11 hM11 => ?_)
      refine g_aload_n 111 1 hX dX12_tips_110 rfl rfl ?_
      refine r_X12_26 114 hX dX12_tips_111 rfl ?_
      refine g_iload 116 0 hX dX12_tips_114 rfl rfl ?_
      refine g_iconst 117 hX 1 dX12_tips_116 rfl kc_i_1 ?_
      refine g_zast 118 hX dX12_tips_117 rfl ?_
      refine g_klM (fun M12 hM12 => ?_)
      refine g_aload_n 119 1 hX dX12_tips_118 rfl rfl ?_
      refine g_iload_n 120 2 hX dX12_tips_119 rfl rfl ?_
      refine g_callV_ip 123 hX (k_X12_torqueOf l g N M12 a0 x1) lk_X12_torqueOf rfl (ci := 12) rfl (Nat.le_of_ble_eq_true rfl) q_1961 q_83 (by omega) rfl (Nat.le_of_ble_eq_true rfl) (Nat.zero_le _) (Nat.zero_le _) dX12_tips_120 rfl (fun r13 => ?_)
      refine g_istore_n 124 2 [(2, .int r13), (4, .int r6), (0, .ref a0), (1, .int x1), (3, .int x3)] hX dX12_tips_123 rfl rfl (Nat.le_of_ble_eq_true rfl) rfl ?_
      refine g_goto 6 hX dX12_tips_124 (by decide) ?_
      refine g_lv [2, 3, 0] rfl ?_
      exact h6 M12 a0 x1 r13
    · refine g_iload_n 47 3 hX dX12_tips_46 rfl rfl ?_
      refine g_iload_n 48 2 hX dX12_tips_47 rfl rfl ?_
      refine g_if_le 55 51 hX dX12_tips_48 (by decide) rfl (fun _ => ?_) (fun _ => ?_)
      · refine g_iconst 56 hX (-1) dX12_tips_55 rfl kc_i_m1 ?_
        refine g_isub 57 hX dX12_tips_56 rfl ?_
        refine g_klI (fun v14 hv14 => ?_)
        refine g_istore_n 58 3 [(3, .int v14), (0, .ref a0), (1, .int x1), (2, .int x2)] hX dX12_tips_57 rfl rfl (Nat.le_of_ble_eq_true rfl) rfl ?_
        refine g_goto 36 hX dX12_tips_58 (by decide) ?_
        refine g_lv [1, 2, 3, 0] rfl ?_
        exact ih M a0 x1 x2 v14
      · refine g_iconst 52 hX 1 dX12_tips_51 rfl kc_i_1 ?_
        refine g_goto 56 hX dX12_tips_52 (by decide) ?_
        refine g_isub 57 hX dX12_tips_56 rfl ?_
        refine g_klI (fun v15 hv15 => ?_)
        refine g_istore_n 58 3 [(3, .int v15), (0, .ref a0), (1, .int x1), (2, .int x2)] hX dX12_tips_57 rfl rfl (Nat.le_of_ble_eq_true rfl) rfl ?_
        refine g_goto 36 hX dX12_tips_58 (by decide) ?_
        refine g_lv [1, 2, 3, 0] rfl ?_
        exact ih M a0 x1 x2 v15
set_option maxRecDepth 100000 in
set_option maxHeartbeats 4000000 in
theorem k_X12_tips_6 {p : Program} {l : Launch} {e : Env} {s : State} {m : MethodId} {args : Array Value} {below : List Frame} {meth : Method} {c : Code} {g : kG} (hX : Cok (p, l, e, { frames := 2 * 5, cells := 0, slots := 0, locals := 60 * 5 }, s, m, args, below, meth, c, cX12_tips, 5, RX12, g, 5)) (hr : meth.sig.returnType = none) (N : Nat) : ∀ (n : Nat) (M : kMem) (a0 : Nat) (x1 : Int32) (x2 : Int32), GG (p, l, e, { frames := 2 * 5, cells := 0, slots := 0, locals := 60 * 5 }, s, m, args, below, meth, c, cX12_tips, 5, RX12, g, 5) (fun b => MQ below (kQ g ((fun r : kMem => (none, r)) b)) args s 0 0 (kZ g.2.2.1)) 0 0 (F_X12_tips_6 N n M a0 x1 x2) 6 [(0, .ref a0), (1, .int x1), (2, .int x2)] [] M := by
  intro n
  induction n with
  | zero => intro _ _ _ _; exact g_none
  | succ n ih =>
    intro M a0 x1 x2
    unfold F_X12_tips_6
    refine g_aload_n 7 0 hX dX12_tips_6 rfl rfl ?_
    refine g_iload_n 8 1 hX dX12_tips_7 rfl rfl ?_
    refine g_iload_n 9 2 hX dX12_tips_8 rfl rfl ?_
    refine g_callV_ip 12 hX (k_X12_isTooMuch l g N M a0 x1 x2) lk_X12_isTooMuch rfl (ci := 12) rfl (Nat.le_of_ble_eq_true rfl) q_1976 q_86 (by omega) rfl (Nat.le_of_ble_eq_true rfl) (Nat.zero_le _) (Nat.zero_le _) dX12_tips_9 rfl (fun r2 => ?_)
    refine g_if_eq 127 15 hX dX12_tips_12 (by decide) rfl (fun _ => ?_) (fun _ => ?_)
    · exact g_vret hX hr rfl (Nat.le_refl 0) (Nat.le_refl 0) dX12_tips_127
    · refine g_iload_n 16 2 hX dX12_tips_15 rfl rfl ?_
      refine g_if_le 28 19 hX dX12_tips_16 (by decide) rfl (fun _ => ?_) (fun _ => ?_)
      · refine g_aload_n 29 0 hX dX12_tips_28 rfl rfl ?_
        refine g_iload_n 30 1 hX dX12_tips_29 rfl rfl ?_
        refine g_iconst 31 hX 0 dX12_tips_30 rfl kc_i_0 ?_
        refine g_callV_ip 34 hX (k_X12_ofBoard l g N M a0 x1 0) lk_X12_ofBoard rfl (ci := 12) rfl (Nat.le_of_ble_eq_true rfl) q_1867 q_64 (by omega) rfl (Nat.le_of_ble_eq_true rfl) (Nat.zero_le _) (Nat.zero_le _) dX12_tips_31 rfl (fun r3 => ?_)
        refine g_ineg 35 hX dX12_tips_34 rfl ?_
        refine g_klI (fun v4 hv4 => ?_)
        refine g_istore_n 36 3 [(3, .int v4), (0, .ref a0), (1, .int x1), (2, .int x2)] hX dX12_tips_35 rfl rfl (Nat.le_of_ble_eq_true rfl) rfl ?_
        refine g_lv [1, 2, 3, 0] rfl ?_
        exact k_X12_tips_36 hX hr N (fun M a0 x1 x2 => F_X12_tips_6 N n M a0 x1 x2) ih N M a0 x1 x2 v4
      · refine g_aload_n 20 0 hX dX12_tips_19 rfl rfl ?_
        refine g_iload_n 21 1 hX dX12_tips_20 rfl rfl ?_
        refine g_iconst 22 hX 0 dX12_tips_21 rfl kc_i_0 ?_
        refine g_callV_ip 25 hX (k_X12_ofBoard l g N M a0 x1 0) lk_X12_ofBoard rfl (ci := 12) rfl (Nat.le_of_ble_eq_true rfl) q_1867 q_64 (by omega) rfl (Nat.le_of_ble_eq_true rfl) (Nat.zero_le _) (Nat.zero_le _) dX12_tips_22 rfl (fun r16 => ?_)
        refine g_goto 35 hX dX12_tips_25 (by decide) ?_
        refine g_istore_n 36 3 [(3, .int r16), (0, .ref a0), (1, .int x1), (2, .int x2)] hX dX12_tips_35 rfl rfl (Nat.le_of_ble_eq_true rfl) rfl ?_
        refine g_lv [1, 2, 3, 0] rfl ?_
        exact k_X12_tips_36 hX hr N (fun M a0 x1 x2 => F_X12_tips_6 N n M a0 x1 x2) ih N M a0 x1 x2 r16
set_option maxRecDepth 100000 in
set_option maxHeartbeats 4000000 in
theorem k_X12_tips (l : Launch) (g : kG) (N : Nat) (M : kMem) (a0 : Nat) (x1 : Int32) : kMet l g yX12_tips cX12_tips 5 none 5 0 0 [.ref a0, .int x1] M (fun r : kMem => (none, r)) (F_X12_tips N M a0 x1) := by
  refine k_of (lv := [(0, .ref a0), (1, .int x1)]) RX12 (by decide) rfl rfl (Nat.le_of_ble_eq_true rfl) ?_
  intro p e s m args below meth c hX hr _
  unfold F_X12_tips
  refine g_aload_n 1 0 hX dX12_tips_0 rfl rfl ?_
  refine g_iload_n 2 1 hX dX12_tips_1 rfl rfl ?_
  refine g_callV_ip 5 hX (k_X12_torqueOf l g N M a0 x1) lk_X12_torqueOf rfl (ci := 12) rfl (Nat.le_of_ble_eq_true rfl) q_1961 q_83 (by omega) rfl (Nat.le_of_ble_eq_true rfl) (Nat.zero_le _) (Nat.zero_le _) dX12_tips_2 rfl (fun r1 => ?_)
  refine g_istore_n 6 2 [(2, .int r1), (0, .ref a0), (1, .int x1)] hX dX12_tips_5 rfl rfl (Nat.le_of_ble_eq_true rfl) rfl ?_
  refine g_lv [1, 2, 0] rfl ?_
  exact k_X12_tips_6 hX hr N N M a0 x1 r1
set_option maxRecDepth 100000 in
set_option maxHeartbeats 4000000 in
theorem k_X12_day1_21 {p : Program} {l : Launch} {e : Env} {s : State} {m : MethodId} {args : Array Value} {below : List Frame} {meth : Method} {c : Code} {g : kG} (hX : Cok (p, l, e, { frames := 2 * 8, cells := 0, slots := 0, locals := 60 * 8 }, s, m, args, below, meth, c, cX12_day1, 2, RX12, g, 8)) (hr : meth.sig.returnType = none) (N : Nat) : ∀ (n : Nat) (M : kMem) (a0 : Nat) (x1 : Int32), GG (p, l, e, { frames := 2 * 8, cells := 0, slots := 0, locals := 60 * 8 }, s, m, args, below, meth, c, cX12_day1, 2, RX12, g, 8) (fun b => MQ below (kQ g ((fun r : kMem => (none, r)) b)) args s 0 0 (kZ g.2.2.1)) 0 0 (F_X12_day1_21 N n M a0 x1) 21 [(0, .ref a0), (1, .int x1)] [] M := by
  intro n
  induction n with
  | zero => intro _ _ _; exact g_none
  | succ n ih =>
    intro M a0 x1
    unfold F_X12_day1_21
    refine g_iload_n 22 1 hX dX12_day1_21 rfl rfl ?_
    refine g_aload_n 23 0 hX dX12_day1_22 rfl rfl ?_
    refine r_X12_7 26 hX dX12_day1_23 rfl ?_
    refine g_bipush 28 hX 7 dX12_day1_26 rfl kc_b_7 ?_
    refine g_iald 29 hX dX12_day1_28 rfl ?_
    refine g_icmp_ge 43 32 hX dX12_day1_29 (by decide) rfl (fun _ => ?_) (fun _ => ?_)
    · exact g_vret hX hr rfl (Nat.le_refl 0) (Nat.le_refl 0) dX12_day1_43
    · refine g_aload_n 33 0 hX dX12_day1_32 rfl rfl ?_
      refine g_iload_n 34 1 hX dX12_day1_33 rfl rfl ?_
      refine g_callV_v 37 hX (k_X12_tips l g N M a0 x1) lk_X12_tips rfl (ci := 12) rfl (Nat.le_of_ble_eq_true rfl) q_2064 q_108 (by omega) rfl (Nat.le_of_ble_eq_true rfl) (Nat.zero_le _) (Nat.zero_le _) dX12_day1_34 rfl (fun M4 => ?_)
      refine g_kl (fun v5 hv5 => ?_)
      refine g_iinc 40 1 1 v5 [(1, .int v5), (0, .ref a0)] hX dX12_day1_37 rfl rfl (by rw [hv5, kc_i_1]) (Nat.le_of_ble_eq_true rfl) rfl ?_
      refine g_goto 21 hX dX12_day1_40 (by decide) ?_
      refine g_lv [1, 0] rfl ?_
      exact ih M4 a0 v5
set_option maxRecDepth 100000 in
set_option maxHeartbeats 4000000 in
theorem k_X12_day1 (l : Launch) (g : kG) (N : Nat) (M : kMem) (a0 : Nat) : kMet l g yX12_day1 cX12_day1 2 none 8 0 0 [.ref a0] M (fun r : kMem => (none, r)) (F_X12_day1 N M a0) := by
  refine k_of (lv := [(0, .ref a0)]) RX12 (by decide) rfl rfl (Nat.le_of_ble_eq_true rfl) ?_
  intro p e s m args below meth c hX hr _
  unfold F_X12_day1
  refine g_aload_n 1 0 hX dX12_day1_0 rfl rfl ?_
  refine r_X12_7 4 hX dX12_day1_1 rfl ?_
  refine g_bipush 6 hX 6 dX12_day1_4 rfl kc_b_6 ?_
  refine g_dup2 7 hX dX12_day1_6 rfl rfl rfl ?_
  refine g_iald 8 hX dX12_day1_7 rfl ?_
  refine g_iconst 9 hX 1 dX12_day1_8 rfl kc_i_1 ?_
  refine g_iadd 10 hX dX12_day1_9 rfl ?_
  refine g_iast 11 hX dX12_day1_10 rfl ?_
  refine g_klM (fun M1 hM1 => ?_)
  refine g_aload_n 12 0 hX dX12_day1_11 rfl rfl ?_
  refine g_callV_v 15 hX (k_X12_earns l g N M1 a0) lk_X12_earns rfl (ci := 12) rfl (Nat.le_of_ble_eq_true rfl) q_2052 q_105 (by omega) rfl (Nat.le_of_ble_eq_true rfl) (Nat.zero_le _) (Nat.zero_le _) dX12_day1_12 rfl (fun M2 => ?_)
  refine g_aload_n 16 0 hX dX12_day1_15 rfl rfl ?_
  refine g_callV_v 19 hX (k_X12_ages l g N M2 a0) lk_X12_ages rfl (ci := 12) rfl (Nat.le_of_ble_eq_true rfl) q_2056 q_106 (by omega) rfl (Nat.le_of_ble_eq_true rfl) (Nat.zero_le _) (Nat.zero_le _) dX12_day1_16 rfl (fun M3 => ?_)
  refine g_iconst 20 hX 0 dX12_day1_19 rfl kc_i_0 ?_
  refine g_istore_n 21 1 [(1, .int 0), (0, .ref a0)] hX dX12_day1_20 rfl rfl (Nat.le_of_ble_eq_true rfl) rfl ?_
  refine g_lv [1, 0] rfl ?_
  exact k_X12_day1_21 hX hr N N M3 a0 0
set_option maxRecDepth 100000 in
set_option maxHeartbeats 4000000 in
theorem k_X12_days1_10 {p : Program} {l : Launch} {e : Env} {s : State} {m : MethodId} {args : Array Value} {below : List Frame} {meth : Method} {c : Code} {g : kG} (hX : Cok (p, l, e, { frames := 2 * 9, cells := 0, slots := 0, locals := 60 * 9 }, s, m, args, below, meth, c, cX12_days1, 4, RX12, g, 9)) (hr : meth.sig.returnType = (some .int)) (N : Nat) : ∀ (n : Nat) (M : kMem) (a0 : Nat) (x1 : Int32) (x2 : Int32) (x3 : Int32), GG (p, l, e, { frames := 2 * 9, cells := 0, slots := 0, locals := 60 * 9 }, s, m, args, below, meth, c, cX12_days1, 4, RX12, g, 9) (fun b => MQ below (kQ g ((fun r : Int32 × kMem => (some (.int r.1), r.2)) b)) args s 0 0 (kZ g.2.2.1)) 0 0 (F_X12_days1_10 N n M a0 x1 x2 x3) 10 [(0, .ref a0), (1, .int x1), (2, .int x2), (3, .int x3)] [] M := by
  intro n
  induction n with
  | zero => intro _ _ _ _ _; exact g_none
  | succ n ih =>
    intro M a0 x1 x2 x3
    unfold F_X12_days1_10
    refine g_iload_n 11 3 hX dX12_days1_10 rfl rfl ?_
    refine g_iload_n 12 1 hX dX12_days1_11 rfl rfl ?_
    refine g_icmp_ge 25 15 hX dX12_days1_12 (by decide) rfl (fun _ => ?_) (fun _ => ?_)
    · refine g_aload_n 26 0 hX dX12_days1_25 rfl rfl ?_
      refine r_X12_7 29 hX dX12_days1_26 rfl ?_
      refine g_bipush 31 hX 12 dX12_days1_29 rfl kc_b_12 ?_
      refine g_iald 32 hX dX12_days1_31 rfl ?_
      refine g_iload_n 33 2 hX dX12_days1_32 rfl rfl ?_
      refine g_isub 34 hX dX12_days1_33 rfl ?_
      exact g_iret hX hr rfl (Nat.le_refl 0) (Nat.le_refl 0) dX12_days1_34
    · refine g_aload_n 16 0 hX dX12_days1_15 rfl rfl ?_
      refine g_callV_v 19 hX (k_X12_day1 l g N M a0) lk_X12_day1 rfl (ci := 12) rfl (Nat.le_of_ble_eq_true rfl) q_2048 q_104 (by omega) rfl (Nat.le_of_ble_eq_true rfl) (Nat.zero_le _) (Nat.zero_le _) dX12_days1_16 rfl (fun M2 => ?_)
      refine g_kl (fun v3 hv3 => ?_)
      refine g_iinc 22 3 3 v3 [(3, .int v3), (0, .ref a0), (1, .int x1), (2, .int x2)] hX dX12_days1_19 rfl rfl (by rw [hv3, kc_i_1]) (Nat.le_of_ble_eq_true rfl) rfl ?_
      refine g_goto 10 hX dX12_days1_22 (by decide) ?_
      refine g_lv [1, 2, 3, 0] rfl ?_
      exact ih M2 a0 x1 x2 v3
set_option maxRecDepth 100000 in
set_option maxHeartbeats 4000000 in
theorem k_X12_days1 (l : Launch) (g : kG) (N : Nat) (M : kMem) (a0 : Nat) (x1 : Int32) : kMet l g yX12_days1 cX12_days1 4 (some .int) 9 0 0 [.ref a0, .int x1] M (fun r : Int32 × kMem => (some (.int r.1), r.2)) (F_X12_days1 N M a0 x1) := by
  refine k_of (lv := [(0, .ref a0), (1, .int x1)]) RX12 (by decide) rfl rfl (Nat.le_of_ble_eq_true rfl) ?_
  intro p e s m args below meth c hX hr _
  unfold F_X12_days1
  refine g_aload_n 1 0 hX dX12_days1_0 rfl rfl ?_
  refine r_X12_7 4 hX dX12_days1_1 rfl ?_
  refine g_bipush 6 hX 12 dX12_days1_4 rfl kc_b_12 ?_
  refine g_iald 7 hX dX12_days1_6 rfl ?_
  refine g_klI (fun v1 hv1 => ?_)
  refine g_istore_n 8 2 [(2, .int v1), (0, .ref a0), (1, .int x1)] hX dX12_days1_7 rfl rfl (Nat.le_of_ble_eq_true rfl) rfl ?_
  refine g_iconst 9 hX 0 dX12_days1_8 rfl kc_i_0 ?_
  refine g_istore_n 10 3 [(3, .int 0), (2, .int v1), (0, .ref a0), (1, .int x1)] hX dX12_days1_9 rfl rfl (Nat.le_of_ble_eq_true rfl) rfl ?_
  refine g_lv [2, 3, 1, 0] rfl ?_
  exact k_X12_days1_10 hX hr N N M a0 x1 v1 0
set_option maxRecDepth 100000 in
set_option maxHeartbeats 4000000 in
theorem k_X12_againstSeat (l : Launch) (g : kG) (N : Nat) (M : kMem) (a0 : Nat) (x1 : Int32) (x2 : Int32) (x3 : Int32) : kMet l g yX12_againstSeat cX12_againstSeat 4 (some .int) 7 0 0 [.ref a0, .int x1, .int x2, .int x3] M (fun r : Int32 => (some (.int r), M)) (F_X12_againstSeat N M a0 x1 x2 x3) := by
  refine k_of (lv := [(0, .ref a0), (1, .int x1), (2, .int x2), (3, .int x3)]) RX12 (by decide) rfl rfl (Nat.le_of_ble_eq_true rfl) ?_
  intro p e s m args below meth c hX hr _
  unfold F_X12_againstSeat
  refine g_aload_n 1 0 hX dX12_againstSeat_0 rfl rfl ?_
  refine g_iload_n 2 1 hX dX12_againstSeat_1 rfl rfl ?_
  refine g_iconst 3 hX 4 dX12_againstSeat_2 rfl kc_i_4 ?_
  refine g_callV_ip 6 hX (k_X12_has l g N M a0 x1 4) lk_X12_has rfl (ci := 12) rfl (Nat.le_of_ble_eq_true rfl) q_1635 q_40 (by omega) rfl (Nat.le_of_ble_eq_true rfl) (Nat.zero_le _) (Nat.zero_le _) dX12_againstSeat_3 rfl (fun r1 => ?_)
  refine g_if_ne 11 9 hX dX12_againstSeat_6 (by decide) rfl (fun _ => ?_) (fun _ => ?_)
  · refine g_aload_n 12 0 hX dX12_againstSeat_11 rfl rfl ?_
    refine g_iload_n 13 2 hX dX12_againstSeat_12 rfl rfl ?_
    refine g_iload_n 14 3 hX dX12_againstSeat_13 rfl rfl ?_
    refine g_callV_ip 17 hX (k_X12_onSeat l g N M a0 x2 x3) lk_X12_onSeat rfl (ci := 12) rfl (Nat.le_of_ble_eq_true rfl) q_1871 q_65 (by omega) rfl (Nat.le_of_ble_eq_true rfl) (Nat.zero_le _) (Nat.zero_le _) dX12_againstSeat_14 rfl (fun r2 => ?_)
    refine g_iconst 18 hX (-1) dX12_againstSeat_17 rfl kc_i_m1 ?_
    refine g_icmp_eq 23 21 hX dX12_againstSeat_18 (by decide) rfl (fun _ => ?_) (fun _ => ?_)
    · refine g_aload_n 24 0 hX dX12_againstSeat_23 rfl rfl ?_
      refine g_iload_n 25 1 hX dX12_againstSeat_24 rfl rfl ?_
      refine g_iconst 26 hX 2 dX12_againstSeat_25 rfl kc_i_2 ?_
      refine g_callV_ip 29 hX (k_X12_has l g N M a0 x1 2) lk_X12_has rfl (ci := 12) rfl (Nat.le_of_ble_eq_true rfl) q_1635 q_40 (by omega) rfl (Nat.le_of_ble_eq_true rfl) (Nat.zero_le _) (Nat.zero_le _) dX12_againstSeat_26 rfl (fun r3 => ?_)
      refine g_aload_n 30 0 hX dX12_againstSeat_29 rfl rfl ?_
      refine g_iload_n 31 2 hX dX12_againstSeat_30 rfl rfl ?_
      refine g_iload_n 32 3 hX dX12_againstSeat_31 rfl rfl ?_
      refine g_callV_ip 35 hX (k_X12_price l g N M a0 x2 x3) lk_X12_price rfl (ci := 12) rfl (Nat.le_of_ble_eq_true rfl) q_1950 q_81 (by omega) rfl (Nat.le_of_ble_eq_true rfl) (Nat.zero_le _) (Nat.zero_le _) dX12_againstSeat_32 rfl (fun r4 => ?_)
      refine g_icmp_ge 40 38 hX dX12_againstSeat_35 (by decide) rfl (fun _ => ?_) (fun _ => ?_)
      · refine g_aload_n 41 0 hX dX12_againstSeat_40 rfl rfl ?_
        refine g_iload_n 42 2 hX dX12_againstSeat_41 rfl rfl ?_
        refine g_aload_n 43 0 hX dX12_againstSeat_42 rfl rfl ?_
        refine g_iload_n 44 1 hX dX12_againstSeat_43 rfl rfl ?_
        refine g_iload_n 45 2 hX dX12_againstSeat_44 rfl rfl ?_
        refine g_iload_n 46 3 hX dX12_againstSeat_45 rfl rfl ?_
        refine g_callV_ip 49 hX (k_X12_torqueWith l g N M a0 x1 x2 x3) lk_X12_torqueWith rfl (ci := 12) rfl (Nat.le_of_ble_eq_true rfl) q_1972 q_85 (by omega) rfl (Nat.le_of_ble_eq_true rfl) (Nat.zero_le _) (Nat.zero_le _) dX12_againstSeat_46 rfl (fun r5 => ?_)
        refine g_callV_ip 52 hX (k_X12_isTooMuch l g N M a0 x2 r5) lk_X12_isTooMuch rfl (ci := 12) rfl (Nat.le_of_ble_eq_true rfl) q_1976 q_86 (by omega) rfl (Nat.le_of_ble_eq_true rfl) (Nat.zero_le _) (Nat.zero_le _) dX12_againstSeat_49 rfl (fun r6 => ?_)
        refine g_if_eq 59 55 hX dX12_againstSeat_52 (by decide) rfl (fun _ => ?_) (fun _ => ?_)
        · refine g_iconst 60 hX 0 dX12_againstSeat_59 rfl kc_i_0 ?_
          exact g_iret hX hr rfl (Nat.le_refl 0) (Nat.le_refl 0) dX12_againstSeat_60
        · refine g_iconst 56 hX 4 dX12_againstSeat_55 rfl kc_i_4 ?_
          refine g_goto 60 hX dX12_againstSeat_56 (by decide) ?_
          exact g_iret hX hr rfl (Nat.le_refl 0) (Nat.le_refl 0) dX12_againstSeat_60
      · refine g_iconst 39 hX 3 dX12_againstSeat_38 rfl kc_i_3 ?_
        exact g_iret hX hr rfl (Nat.le_refl 0) (Nat.le_refl 0) dX12_againstSeat_39
    · refine g_iconst 22 hX 2 dX12_againstSeat_21 rfl kc_i_2 ?_
      exact g_iret hX hr rfl (Nat.le_refl 0) (Nat.le_refl 0) dX12_againstSeat_22
  · refine g_iconst 10 hX 1 dX12_againstSeat_9 rfl kc_i_1 ?_
    exact g_iret hX hr rfl (Nat.le_refl 0) (Nat.le_refl 0) dX12_againstSeat_10
set_option maxRecDepth 100000 in
set_option maxHeartbeats 4000000 in
theorem k_X12_againstSale (l : Launch) (g : kG) (N : Nat) (M : kMem) (a0 : Nat) (x1 : Int32) (x2 : Int32) (x3 : Int32) : kMet l g yX12_againstSale cX12_againstSale 5 (some .int) 8 0 0 [.ref a0, .int x1, .int x2, .int x3] M (fun r : Int32 => (some (.int r), M)) (F_X12_againstSale N M a0 x1 x2 x3) := by
  refine k_of (lv := [(0, .ref a0), (1, .int x1), (2, .int x2), (3, .int x3)]) RX12 (by decide) rfl rfl (Nat.le_of_ble_eq_true rfl) ?_
  intro p e s m args below meth c hX hr _
  unfold F_X12_againstSale
  refine g_aload_n 1 0 hX dX12_againstSale_0 rfl rfl ?_
  refine g_iload_n 2 1 hX dX12_againstSale_1 rfl rfl ?_
  refine g_callV_ip 5 hX (k_X12_isSeated l g N M a0 x1) lk_X12_isSeated rfl (ci := 12) rfl (Nat.le_of_ble_eq_true rfl) q_1857 q_62 (by omega) rfl (Nat.le_of_ble_eq_true rfl) (Nat.zero_le _) (Nat.zero_le _) dX12_againstSale_2 rfl (fun r1 => ?_)
  refine g_if_eq 16 8 hX dX12_againstSale_5 (by decide) rfl (fun _ => ?_) (fun _ => ?_)
  · refine g_iconst 17 hX 5 dX12_againstSale_16 rfl kc_i_5 ?_
    exact g_iret hX hr rfl (Nat.le_refl 0) (Nat.le_refl 0) dX12_againstSale_17
  · refine g_aload_n 9 0 hX dX12_againstSale_8 rfl rfl ?_
    refine g_iload_n 10 2 hX dX12_againstSale_9 rfl rfl ?_
    refine g_callV_ip 13 hX (k_X12_isSeated l g N M a0 x2) lk_X12_isSeated rfl (ci := 12) rfl (Nat.le_of_ble_eq_true rfl) q_1857 q_62 (by omega) rfl (Nat.le_of_ble_eq_true rfl) (Nat.zero_le _) (Nat.zero_le _) dX12_againstSale_10 rfl (fun r2 => ?_)
    refine g_if_ne 18 16 hX dX12_againstSale_13 (by decide) rfl (fun _ => ?_) (fun _ => ?_)
    · refine g_aload_n 19 0 hX dX12_againstSale_18 rfl rfl ?_
      refine g_iload_n 20 1 hX dX12_againstSale_19 rfl rfl ?_
      refine g_iconst 21 hX 5 dX12_againstSale_20 rfl kc_i_5 ?_
      refine g_callV_ip 24 hX (k_X12_has l g N M a0 x1 5) lk_X12_has rfl (ci := 12) rfl (Nat.le_of_ble_eq_true rfl) q_1635 q_40 (by omega) rfl (Nat.le_of_ble_eq_true rfl) (Nat.zero_le _) (Nat.zero_le _) dX12_againstSale_21 rfl (fun r3 => ?_)
      refine g_aload_n 25 0 hX dX12_againstSale_24 rfl rfl ?_
      refine g_iload_n 26 2 hX dX12_againstSale_25 rfl rfl ?_
      refine g_iconst 27 hX 5 dX12_againstSale_26 rfl kc_i_5 ?_
      refine g_callV_ip 30 hX (k_X12_has l g N M a0 x2 5) lk_X12_has rfl (ci := 12) rfl (Nat.le_of_ble_eq_true rfl) q_1635 q_40 (by omega) rfl (Nat.le_of_ble_eq_true rfl) (Nat.zero_le _) (Nat.zero_le _) dX12_againstSale_27 rfl (fun r4 => ?_)
      refine g_icmp_eq 36 33 hX dX12_againstSale_30 (by decide) rfl (fun _ => ?_) (fun _ => ?_)
      · refine g_aload_n 37 0 hX dX12_againstSale_36 rfl rfl ?_
        refine g_iload_n 38 1 hX dX12_againstSale_37 rfl rfl ?_
        refine g_iconst 39 hX 1 dX12_againstSale_38 rfl kc_i_1 ?_
        refine g_callV_ip 42 hX (k_X12_has l g N M a0 x1 1) lk_X12_has rfl (ci := 12) rfl (Nat.le_of_ble_eq_true rfl) q_1635 q_40 (by omega) rfl (Nat.le_of_ble_eq_true rfl) (Nat.zero_le _) (Nat.zero_le _) dX12_againstSale_39 rfl (fun r5 => ?_)
        refine g_iload_n 43 3 hX dX12_againstSale_42 rfl rfl ?_
        refine g_isub 44 hX dX12_againstSale_43 rfl ?_
        refine g_iconst 45 hX 1 dX12_againstSale_44 rfl kc_i_1 ?_
        refine g_icmp_lt 61 48 hX dX12_againstSale_45 (by decide) rfl (fun _ => ?_) (fun _ => ?_)
        · refine g_bipush 63 hX 7 dX12_againstSale_61 rfl kc_b_7 ?_
          exact g_iret hX hr rfl (Nat.le_refl 0) (Nat.le_refl 0) dX12_againstSale_63
        · refine g_aload_n 49 0 hX dX12_againstSale_48 rfl rfl ?_
          refine g_iload_n 50 2 hX dX12_againstSale_49 rfl rfl ?_
          refine g_iconst 51 hX 1 dX12_againstSale_50 rfl kc_i_1 ?_
          refine g_callV_ip 54 hX (k_X12_has l g N M a0 x2 1) lk_X12_has rfl (ci := 12) rfl (Nat.le_of_ble_eq_true rfl) q_1635 q_40 (by omega) rfl (Nat.le_of_ble_eq_true rfl) (Nat.zero_le _) (Nat.zero_le _) dX12_againstSale_51 rfl (fun r6 => ?_)
          refine g_iload_n 55 3 hX dX12_againstSale_54 rfl rfl ?_
          refine g_iadd 56 hX dX12_againstSale_55 rfl ?_
          refine g_bipush 58 hX 99 dX12_againstSale_56 rfl kc_b_99 ?_
          refine g_icmp_le 64 61 hX dX12_againstSale_58 (by decide) rfl (fun _ => ?_) (fun _ => ?_)
          · refine g_aload_n 65 0 hX dX12_againstSale_64 rfl rfl ?_
            refine g_iload_n 66 2 hX dX12_againstSale_65 rfl rfl ?_
            refine g_iconst 67 hX 2 dX12_againstSale_66 rfl kc_i_2 ?_
            refine g_callV_ip 70 hX (k_X12_has l g N M a0 x2 2) lk_X12_has rfl (ci := 12) rfl (Nat.le_of_ble_eq_true rfl) q_1635 q_40 (by omega) rfl (Nat.le_of_ble_eq_true rfl) (Nat.zero_le _) (Nat.zero_le _) dX12_againstSale_67 rfl (fun r7 => ?_)
            refine g_iload_n 71 3 hX dX12_againstSale_70 rfl rfl ?_
            refine g_aload_n 72 0 hX dX12_againstSale_71 rfl rfl ?_
            refine g_iload_n 73 1 hX dX12_againstSale_72 rfl rfl ?_
            refine g_iload_n 74 2 hX dX12_againstSale_73 rfl rfl ?_
            refine g_callV_ip 77 hX (k_X12_unitPrice l g N M a0 x1 x2) lk_X12_unitPrice rfl (ci := 12) rfl (Nat.le_of_ble_eq_true rfl) q_2012 q_95 (by omega) rfl (Nat.le_of_ble_eq_true rfl) (Nat.zero_le _) (Nat.zero_le _) dX12_againstSale_74 rfl (fun r8 => ?_)
            refine g_imul 78 hX dX12_againstSale_77 rfl ?_
            refine g_icmp_ge 83 81 hX dX12_againstSale_78 (by decide) rfl (fun _ => ?_) (fun _ => ?_)
            · refine g_aload_n 84 0 hX dX12_againstSale_83 rfl rfl ?_
              refine g_iload_n 85 1 hX dX12_againstSale_84 rfl rfl ?_
              refine g_iconst 86 hX 5 dX12_againstSale_85 rfl kc_i_5 ?_
              refine g_callV_ip 89 hX (k_X12_has l g N M a0 x1 5) lk_X12_has rfl (ci := 12) rfl (Nat.le_of_ble_eq_true rfl) q_1635 q_40 (by omega) rfl (Nat.le_of_ble_eq_true rfl) (Nat.zero_le _) (Nat.zero_le _) dX12_againstSale_86 rfl (fun r9 => ?_)
              refine g_istore 91 4 [(4, .int r9), (0, .ref a0), (1, .int x1), (2, .int x2), (3, .int x3)] hX dX12_againstSale_89 rfl (Nat.le_of_ble_eq_true rfl) rfl ?_
              refine g_aload_n 92 1 hX dX12_againstSale_91 rfl rfl ?_
              refine g_iload 94 0 hX dX12_againstSale_92 rfl rfl ?_
              refine g_aload_n 95 1 hX dX12_againstSale_94 rfl rfl ?_
              refine g_iload 97 0 hX dX12_againstSale_95 rfl rfl ?_
              refine g_callV_ip 100 hX (k_X12_torqueOf l g N M a0 r9) lk_X12_torqueOf rfl (ci := 12) rfl (Nat.le_of_ble_eq_true rfl) q_1961 q_83 (by omega) rfl (Nat.le_of_ble_eq_true rfl) (Nat.zero_le _) (Nat.zero_le _) dX12_againstSale_97 rfl (fun r10 => ?_)
              refine g_iload_n 101 4 hX dX12_againstSale_100 rfl rfl ?_
              refine g_aload_n 102 1 hX dX12_againstSale_101 rfl rfl ?_
              refine g_iload_n 103 3 hX dX12_againstSale_102 rfl rfl ?_
              refine g_bipush 105 hX 6 dX12_againstSale_103 rfl kc_b_6 ?_
              refine g_callV_ip 108 hX (k_X12_has l g N M a0 x2 6) lk_X12_has rfl (ci := 12) rfl (Nat.le_of_ble_eq_true rfl) q_1635 q_40 (by omega) rfl (Nat.le_of_ble_eq_true rfl) (Nat.zero_le _) (Nat.zero_le _) dX12_againstSale_105 rfl (fun r11 => ?_)
              refine g_aload_n 109 1 hX dX12_againstSale_108 rfl rfl ?_
              refine g_iload_n 110 2 hX dX12_againstSale_109 rfl rfl ?_
              refine g_bipush 112 hX 6 dX12_againstSale_110 rfl kc_b_6 ?_
              refine g_callV_ip 115 hX (k_X12_has l g N M a0 x1 6) lk_X12_has rfl (ci := 12) rfl (Nat.le_of_ble_eq_true rfl) q_1635 q_40 (by omega) rfl (Nat.le_of_ble_eq_true rfl) (Nat.zero_le _) (Nat.zero_le _) dX12_againstSale_112 rfl (fun r12 => ?_)
              refine g_isub 116 hX dX12_againstSale_115 rfl ?_
              refine g_imul 117 hX dX12_againstSale_116 rfl ?_
              refine g_iadd 118 hX dX12_againstSale_117 rfl ?_
              refine g_callV_ip 121 hX (k_X12_isTooMuch l g N M a0 r9 (r10 + (x3 * (r11 - r12)))) lk_X12_isTooMuch rfl (ci := 12) rfl (Nat.le_of_ble_eq_true rfl) q_1976 q_86 (by omega) rfl (Nat.le_of_ble_eq_true rfl) (Nat.zero_le _) (Nat.zero_le _) dX12_againstSale_118 rfl (fun r13 => ?_)
              refine g_if_eq 128 124 hX dX12_againstSale_121 (by decide) rfl (fun _ => ?_) (fun _ => ?_)
              · refine g_iconst 129 hX 0 dX12_againstSale_128 rfl kc_i_0 ?_
                exact g_iret hX hr rfl (Nat.le_refl 0) (Nat.le_refl 0) dX12_againstSale_129
              · refine g_iconst 125 hX 4 dX12_againstSale_124 rfl kc_i_4 ?_
                refine g_goto 129 hX dX12_againstSale_125 (by decide) ?_
                exact g_iret hX hr rfl (Nat.le_refl 0) (Nat.le_refl 0) dX12_againstSale_129
            · refine g_iconst 82 hX 3 dX12_againstSale_81 rfl kc_i_3 ?_
              exact g_iret hX hr rfl (Nat.le_refl 0) (Nat.le_refl 0) dX12_againstSale_82
          · refine g_bipush 63 hX 7 dX12_againstSale_61 rfl kc_b_7 ?_
            exact g_iret hX hr rfl (Nat.le_refl 0) (Nat.le_refl 0) dX12_againstSale_63
      · refine g_bipush 35 hX 6 dX12_againstSale_33 rfl kc_b_6 ?_
        exact g_iret hX hr rfl (Nat.le_refl 0) (Nat.le_refl 0) dX12_againstSale_35
    · refine g_iconst 17 hX 5 dX12_againstSale_16 rfl kc_i_5 ?_
      exact g_iret hX hr rfl (Nat.le_refl 0) (Nat.le_refl 0) dX12_againstSale_17
set_option maxRecDepth 100000 in
set_option maxHeartbeats 4000000 in
theorem k_X12_torqueSwapped (l : Launch) (g : kG) (N : Nat) (M : kMem) (a0 : Nat) (x1 : Int32) (x2 : Int32) : kMet l g yX12_torqueSwapped cX12_torqueSwapped 4 (some .int) 5 0 0 [.ref a0, .int x1, .int x2] M (fun r : Int32 => (some (.int r), M)) (F_X12_torqueSwapped N M a0 x1 x2) := by
  refine k_of (lv := [(0, .ref a0), (1, .int x1), (2, .int x2)]) RX12 (by decide) rfl rfl (Nat.le_of_ble_eq_true rfl) ?_
  intro p e s m args below meth c hX hr _
  unfold F_X12_torqueSwapped
  refine g_aload_n 1 0 hX dX12_torqueSwapped_0 rfl rfl ?_
  refine g_aload_n 2 0 hX dX12_torqueSwapped_1 rfl rfl ?_
  refine g_iload_n 3 1 hX dX12_torqueSwapped_2 rfl rfl ?_
  refine g_iconst 4 hX 5 dX12_torqueSwapped_3 rfl kc_i_5 ?_
  refine g_callV_ip 7 hX (k_X12_has l g N M a0 x1 5) lk_X12_has rfl (ci := 12) rfl (Nat.le_of_ble_eq_true rfl) q_1635 q_40 (by omega) rfl (Nat.le_of_ble_eq_true rfl) (Nat.zero_le _) (Nat.zero_le _) dX12_torqueSwapped_4 rfl (fun r1 => ?_)
  refine g_callV_ip 10 hX (k_X12_torqueOf l g N M a0 r1) lk_X12_torqueOf rfl (ci := 12) rfl (Nat.le_of_ble_eq_true rfl) q_1961 q_83 (by omega) rfl (Nat.le_of_ble_eq_true rfl) (Nat.zero_le _) (Nat.zero_le _) dX12_torqueSwapped_7 rfl (fun r2 => ?_)
  refine g_aload_n 11 0 hX dX12_torqueSwapped_10 rfl rfl ?_
  refine g_iload_n 12 1 hX dX12_torqueSwapped_11 rfl rfl ?_
  refine g_bipush 14 hX 6 dX12_torqueSwapped_12 rfl kc_b_6 ?_
  refine g_callV_ip 17 hX (k_X12_has l g N M a0 x1 6) lk_X12_has rfl (ci := 12) rfl (Nat.le_of_ble_eq_true rfl) q_1635 q_40 (by omega) rfl (Nat.le_of_ble_eq_true rfl) (Nat.zero_le _) (Nat.zero_le _) dX12_torqueSwapped_14 rfl (fun r3 => ?_)
  refine g_aload_n 18 0 hX dX12_torqueSwapped_17 rfl rfl ?_
  refine g_iload_n 19 2 hX dX12_torqueSwapped_18 rfl rfl ?_
  refine g_iconst 20 hX 1 dX12_torqueSwapped_19 rfl kc_i_1 ?_
  refine g_callV_ip 23 hX (k_X12_has l g N M a0 x2 1) lk_X12_has rfl (ci := 12) rfl (Nat.le_of_ble_eq_true rfl) q_1635 q_40 (by omega) rfl (Nat.le_of_ble_eq_true rfl) (Nat.zero_le _) (Nat.zero_le _) dX12_torqueSwapped_20 rfl (fun r4 => ?_)
  refine g_aload_n 24 0 hX dX12_torqueSwapped_23 rfl rfl ?_
  refine g_iload_n 25 1 hX dX12_torqueSwapped_24 rfl rfl ?_
  refine g_iconst 26 hX 1 dX12_torqueSwapped_25 rfl kc_i_1 ?_
  refine g_callV_ip 29 hX (k_X12_has l g N M a0 x1 1) lk_X12_has rfl (ci := 12) rfl (Nat.le_of_ble_eq_true rfl) q_1635 q_40 (by omega) rfl (Nat.le_of_ble_eq_true rfl) (Nat.zero_le _) (Nat.zero_le _) dX12_torqueSwapped_26 rfl (fun r5 => ?_)
  refine g_isub 30 hX dX12_torqueSwapped_29 rfl ?_
  refine g_imul 31 hX dX12_torqueSwapped_30 rfl ?_
  refine g_iadd 32 hX dX12_torqueSwapped_31 rfl ?_
  refine g_klI (fun v6 hv6 => ?_)
  refine g_istore_n 33 3 [(3, .int v6), (0, .ref a0), (1, .int x1), (2, .int x2)] hX dX12_torqueSwapped_32 rfl rfl (Nat.le_of_ble_eq_true rfl) rfl ?_
  refine g_aload_n 34 1 hX dX12_torqueSwapped_33 rfl rfl ?_
  refine g_iload_n 35 2 hX dX12_torqueSwapped_34 rfl rfl ?_
  refine g_iconst 36 hX 5 dX12_torqueSwapped_35 rfl kc_i_5 ?_
  refine g_callV_ip 39 hX (k_X12_has l g N M a0 x1 5) lk_X12_has rfl (ci := 12) rfl (Nat.le_of_ble_eq_true rfl) q_1635 q_40 (by omega) rfl (Nat.le_of_ble_eq_true rfl) (Nat.zero_le _) (Nat.zero_le _) dX12_torqueSwapped_36 rfl (fun r7 => ?_)
  refine g_aload_n 40 1 hX dX12_torqueSwapped_39 rfl rfl ?_
  refine g_iload_n 41 3 hX dX12_torqueSwapped_40 rfl rfl ?_
  refine g_iconst 42 hX 5 dX12_torqueSwapped_41 rfl kc_i_5 ?_
  refine g_callV_ip 45 hX (k_X12_has l g N M a0 x2 5) lk_X12_has rfl (ci := 12) rfl (Nat.le_of_ble_eq_true rfl) q_1635 q_40 (by omega) rfl (Nat.le_of_ble_eq_true rfl) (Nat.zero_le _) (Nat.zero_le _) dX12_torqueSwapped_42 rfl (fun r8 => ?_)
  refine g_icmp_ne 72 48 hX dX12_torqueSwapped_45 (by decide) rfl (fun _ => ?_) (fun _ => ?_)
  · refine g_iload_n 73 0 hX dX12_torqueSwapped_72 rfl rfl ?_
    exact g_iret hX hr rfl (Nat.le_refl 0) (Nat.le_refl 0) dX12_torqueSwapped_73
  · refine g_iload_n 49 0 hX dX12_torqueSwapped_48 rfl rfl ?_
    refine g_aload_n 50 1 hX dX12_torqueSwapped_49 rfl rfl ?_
    refine g_iload_n 51 3 hX dX12_torqueSwapped_50 rfl rfl ?_
    refine g_bipush 53 hX 6 dX12_torqueSwapped_51 rfl kc_b_6 ?_
    refine g_callV_ip 56 hX (k_X12_has l g N M a0 x2 6) lk_X12_has rfl (ci := 12) rfl (Nat.le_of_ble_eq_true rfl) q_1635 q_40 (by omega) rfl (Nat.le_of_ble_eq_true rfl) (Nat.zero_le _) (Nat.zero_le _) dX12_torqueSwapped_53 rfl (fun r9 => ?_)
    refine g_aload_n 57 1 hX dX12_torqueSwapped_56 rfl rfl ?_
    refine g_iload_n 58 2 hX dX12_torqueSwapped_57 rfl rfl ?_
    refine g_iconst 59 hX 1 dX12_torqueSwapped_58 rfl kc_i_1 ?_
    refine g_callV_ip 62 hX (k_X12_has l g N M a0 x1 1) lk_X12_has rfl (ci := 12) rfl (Nat.le_of_ble_eq_true rfl) q_1635 q_40 (by omega) rfl (Nat.le_of_ble_eq_true rfl) (Nat.zero_le _) (Nat.zero_le _) dX12_torqueSwapped_59 rfl (fun r10 => ?_)
    refine g_aload_n 63 1 hX dX12_torqueSwapped_62 rfl rfl ?_
    refine g_iload_n 64 3 hX dX12_torqueSwapped_63 rfl rfl ?_
    refine g_iconst 65 hX 1 dX12_torqueSwapped_64 rfl kc_i_1 ?_
    refine g_callV_ip 68 hX (k_X12_has l g N M a0 x2 1) lk_X12_has rfl (ci := 12) rfl (Nat.le_of_ble_eq_true rfl) q_1635 q_40 (by omega) rfl (Nat.le_of_ble_eq_true rfl) (Nat.zero_le _) (Nat.zero_le _) dX12_torqueSwapped_65 rfl (fun r11 => ?_)
    refine g_isub 69 hX dX12_torqueSwapped_68 rfl ?_
    refine g_imul 70 hX dX12_torqueSwapped_69 rfl ?_
    refine g_iadd 71 hX dX12_torqueSwapped_70 rfl ?_
    refine g_klI (fun v12 hv12 => ?_)
    refine g_istore_n 72 3 [(3, .int v12), (0, .ref a0), (1, .int x1), (2, .int x2)] hX dX12_torqueSwapped_71 rfl rfl (Nat.le_of_ble_eq_true rfl) rfl ?_
    refine g_iload_n 73 0 hX dX12_torqueSwapped_72 rfl rfl ?_
    exact g_iret hX hr rfl (Nat.le_refl 0) (Nat.le_refl 0) dX12_torqueSwapped_73
set_option maxRecDepth 100000 in
set_option maxHeartbeats 4000000 in
theorem k_X12_againstSwap_40 {p : Program} {l : Launch} {e : Env} {s : State} {m : MethodId} {args : Array Value} {below : List Frame} {meth : Method} {c : Code} {g : kG} (hX : Cok (p, l, e, { frames := 2 * 7, cells := 0, slots := 0, locals := 60 * 7 }, s, m, args, below, meth, c, cX12_againstSwap, 5, RX12, g, 7)) (hr : meth.sig.returnType = (some .int)) (N : Nat) (M : kMem) : ∀ (a0 : Nat) (x1 : Int32) (x2 : Int32) (x3 : Int32) (y0 : Nat) (y1 : Int32), GG (p, l, e, { frames := 2 * 7, cells := 0, slots := 0, locals := 60 * 7 }, s, m, args, below, meth, c, cX12_againstSwap, 5, RX12, g, 7) (fun b => MQ below (kQ g ((fun r : Int32 => (some (.int r), M)) b)) args s 0 0 (kZ g.2.2.1)) 0 0 (F_X12_againstSwap_40 N M a0 x1 x2 x3 y0 y1) 40 [(0, .ref a0), (1, .int x1), (2, .int x2), (3, .int x3)] [.int y1, .ref y0] M := by
  intro a0 x1 x2 x3 y0 y1
  unfold F_X12_againstSwap_40
  refine g_iconst 41 hX 2 dX12_againstSwap_40 rfl kc_i_2 ?_
  refine g_callV_ip 44 hX (k_X12_has l g N M y0 y1 2) lk_X12_has rfl (ci := 12) rfl (Nat.le_of_ble_eq_true rfl) q_1635 q_40 (by omega) rfl (Nat.le_of_ble_eq_true rfl) (Nat.zero_le _) (Nat.zero_le _) dX12_againstSwap_41 rfl (fun r6 => ?_)
  refine g_iload_n 45 3 hX dX12_againstSwap_44 rfl rfl ?_
  refine g_callS_ip 48 hX (k_X12_bare l g N M x3) lk_X12_bare q_1954 (by omega) rfl (Nat.le_of_ble_eq_true rfl) (Nat.zero_le _) (Nat.zero_le _) dX12_againstSwap_45 rfl (fun r7 => ?_)
  refine g_icmp_ge 53 51 hX dX12_againstSwap_48 (by decide) rfl (fun _ => ?_) (fun _ => ?_)
  · refine g_aload_n 54 0 hX dX12_againstSwap_53 rfl rfl ?_
    refine g_aload_n 55 0 hX dX12_againstSwap_54 rfl rfl ?_
    refine g_iload_n 56 1 hX dX12_againstSwap_55 rfl rfl ?_
    refine g_iconst 57 hX 5 dX12_againstSwap_56 rfl kc_i_5 ?_
    refine g_callV_ip 60 hX (k_X12_has l g N M a0 x1 5) lk_X12_has rfl (ci := 12) rfl (Nat.le_of_ble_eq_true rfl) q_1635 q_40 (by omega) rfl (Nat.le_of_ble_eq_true rfl) (Nat.zero_le _) (Nat.zero_le _) dX12_againstSwap_57 rfl (fun r8 => ?_)
    refine g_aload_n 61 0 hX dX12_againstSwap_60 rfl rfl ?_
    refine g_iload_n 62 1 hX dX12_againstSwap_61 rfl rfl ?_
    refine g_iload_n 63 2 hX dX12_againstSwap_62 rfl rfl ?_
    refine g_callV_ip 66 hX (k_X12_torqueSwapped l g N M a0 x1 x2) lk_X12_torqueSwapped rfl (ci := 12) rfl (Nat.le_of_ble_eq_true rfl) q_2024 q_98 (by omega) rfl (Nat.le_of_ble_eq_true rfl) (Nat.zero_le _) (Nat.zero_le _) dX12_againstSwap_63 rfl (fun r9 => ?_)
    refine g_callV_ip 69 hX (k_X12_isTooMuch l g N M a0 r8 r9) lk_X12_isTooMuch rfl (ci := 12) rfl (Nat.le_of_ble_eq_true rfl) q_1976 q_86 (by omega) rfl (Nat.le_of_ble_eq_true rfl) (Nat.zero_le _) (Nat.zero_le _) dX12_againstSwap_66 rfl (fun r10 => ?_)
    refine g_if_ne 91 72 hX dX12_againstSwap_69 (by decide) rfl (fun _ => ?_) (fun _ => ?_)
    · refine g_iconst 92 hX 1 dX12_againstSwap_91 rfl kc_i_1 ?_
      refine g_goto 96 hX dX12_againstSwap_92 (by decide) ?_
      refine g_istore 98 4 [(4, .int 1), (0, .ref a0), (1, .int x1), (2, .int x2), (3, .int x3)] hX dX12_againstSwap_96 rfl (Nat.le_of_ble_eq_true rfl) rfl ?_
      refine g_iload 100 0 hX dX12_againstSwap_98 rfl rfl ?_
      refine g_if_eq 107 103 hX dX12_againstSwap_100 (by decide) rfl (fun _ => ?_) (fun _ => ?_)
      · refine g_iconst 108 hX 0 dX12_againstSwap_107 rfl kc_i_0 ?_
        exact g_iret hX hr rfl (Nat.le_refl 0) (Nat.le_refl 0) dX12_againstSwap_108
      · refine g_iconst 104 hX 4 dX12_againstSwap_103 rfl kc_i_4 ?_
        refine g_goto 108 hX dX12_againstSwap_104 (by decide) ?_
        exact g_iret hX hr rfl (Nat.le_refl 0) (Nat.le_refl 0) dX12_againstSwap_108
    · refine g_aload_n 73 0 hX dX12_againstSwap_72 rfl rfl ?_
      refine g_aload_n 74 0 hX dX12_againstSwap_73 rfl rfl ?_
      refine g_iload_n 75 2 hX dX12_againstSwap_74 rfl rfl ?_
      refine g_iconst 76 hX 5 dX12_againstSwap_75 rfl kc_i_5 ?_
      refine g_callV_ip 79 hX (k_X12_has l g N M a0 x2 5) lk_X12_has rfl (ci := 12) rfl (Nat.le_of_ble_eq_true rfl) q_1635 q_40 (by omega) rfl (Nat.le_of_ble_eq_true rfl) (Nat.zero_le _) (Nat.zero_le _) dX12_againstSwap_76 rfl (fun r11 => ?_)
      refine g_aload_n 80 0 hX dX12_againstSwap_79 rfl rfl ?_
      refine g_iload_n 81 2 hX dX12_againstSwap_80 rfl rfl ?_
      refine g_iload_n 82 1 hX dX12_againstSwap_81 rfl rfl ?_
      refine g_callV_ip 85 hX (k_X12_torqueSwapped l g N M a0 x2 x1) lk_X12_torqueSwapped rfl (ci := 12) rfl (Nat.le_of_ble_eq_true rfl) q_2024 q_98 (by omega) rfl (Nat.le_of_ble_eq_true rfl) (Nat.zero_le _) (Nat.zero_le _) dX12_againstSwap_82 rfl (fun r12 => ?_)
      refine g_callV_ip 88 hX (k_X12_isTooMuch l g N M a0 r11 r12) lk_X12_isTooMuch rfl (ci := 12) rfl (Nat.le_of_ble_eq_true rfl) q_1976 q_86 (by omega) rfl (Nat.le_of_ble_eq_true rfl) (Nat.zero_le _) (Nat.zero_le _) dX12_againstSwap_85 rfl (fun r13 => ?_)
      refine g_if_eq 95 91 hX dX12_againstSwap_88 (by decide) rfl (fun _ => ?_) (fun _ => ?_)
      · refine g_iconst 96 hX 0 dX12_againstSwap_95 rfl kc_i_0 ?_
        refine g_istore 98 4 [(4, .int 0), (0, .ref a0), (1, .int x1), (2, .int x2), (3, .int x3)] hX dX12_againstSwap_96 rfl (Nat.le_of_ble_eq_true rfl) rfl ?_
        refine g_iload 100 0 hX dX12_againstSwap_98 rfl rfl ?_
        refine g_if_eq 107 103 hX dX12_againstSwap_100 (by decide) rfl (fun _ => ?_) (fun _ => ?_)
        · refine g_iconst 108 hX 0 dX12_againstSwap_107 rfl kc_i_0 ?_
          exact g_iret hX hr rfl (Nat.le_refl 0) (Nat.le_refl 0) dX12_againstSwap_108
        · refine g_iconst 104 hX 4 dX12_againstSwap_103 rfl kc_i_4 ?_
          refine g_goto 108 hX dX12_againstSwap_104 (by decide) ?_
          exact g_iret hX hr rfl (Nat.le_refl 0) (Nat.le_refl 0) dX12_againstSwap_108
      · refine g_iconst 92 hX 1 dX12_againstSwap_91 rfl kc_i_1 ?_
        refine g_goto 96 hX dX12_againstSwap_92 (by decide) ?_
        refine g_istore 98 4 [(4, .int 1), (0, .ref a0), (1, .int x1), (2, .int x2), (3, .int x3)] hX dX12_againstSwap_96 rfl (Nat.le_of_ble_eq_true rfl) rfl ?_
        refine g_iload 100 0 hX dX12_againstSwap_98 rfl rfl ?_
        refine g_if_eq 107 103 hX dX12_againstSwap_100 (by decide) rfl (fun _ => ?_) (fun _ => ?_)
        · refine g_iconst 108 hX 0 dX12_againstSwap_107 rfl kc_i_0 ?_
          exact g_iret hX hr rfl (Nat.le_refl 0) (Nat.le_refl 0) dX12_againstSwap_108
        · refine g_iconst 104 hX 4 dX12_againstSwap_103 rfl kc_i_4 ?_
          refine g_goto 108 hX dX12_againstSwap_104 (by decide) ?_
          exact g_iret hX hr rfl (Nat.le_refl 0) (Nat.le_refl 0) dX12_againstSwap_108
  · refine g_iconst 52 hX 3 dX12_againstSwap_51 rfl kc_i_3 ?_
    exact g_iret hX hr rfl (Nat.le_refl 0) (Nat.le_refl 0) dX12_againstSwap_52
set_option maxRecDepth 100000 in
set_option maxHeartbeats 4000000 in
theorem k_X12_againstSwap (l : Launch) (g : kG) (N : Nat) (M : kMem) (a0 : Nat) (x1 : Int32) (x2 : Int32) : kMet l g yX12_againstSwap cX12_againstSwap 5 (some .int) 7 0 0 [.ref a0, .int x1, .int x2] M (fun r : Int32 => (some (.int r), M)) (F_X12_againstSwap N M a0 x1 x2) := by
  refine k_of (lv := [(0, .ref a0), (1, .int x1), (2, .int x2)]) RX12 (by decide) rfl rfl (Nat.le_of_ble_eq_true rfl) ?_
  intro p e s m args below meth c hX hr _
  unfold F_X12_againstSwap
  refine g_aload_n 1 0 hX dX12_againstSwap_0 rfl rfl ?_
  refine g_iload_n 2 1 hX dX12_againstSwap_1 rfl rfl ?_
  refine g_callV_ip 5 hX (k_X12_isSeated l g N M a0 x1) lk_X12_isSeated rfl (ci := 12) rfl (Nat.le_of_ble_eq_true rfl) q_1857 q_62 (by omega) rfl (Nat.le_of_ble_eq_true rfl) (Nat.zero_le _) (Nat.zero_le _) dX12_againstSwap_2 rfl (fun r1 => ?_)
  refine g_if_eq 16 8 hX dX12_againstSwap_5 (by decide) rfl (fun _ => ?_) (fun _ => ?_)
  · refine g_iconst 17 hX 5 dX12_againstSwap_16 rfl kc_i_5 ?_
    exact g_iret hX hr rfl (Nat.le_refl 0) (Nat.le_refl 0) dX12_againstSwap_17
  · refine g_aload_n 9 0 hX dX12_againstSwap_8 rfl rfl ?_
    refine g_iload_n 10 2 hX dX12_againstSwap_9 rfl rfl ?_
    refine g_callV_ip 13 hX (k_X12_isSeated l g N M a0 x2) lk_X12_isSeated rfl (ci := 12) rfl (Nat.le_of_ble_eq_true rfl) q_1857 q_62 (by omega) rfl (Nat.le_of_ble_eq_true rfl) (Nat.zero_le _) (Nat.zero_le _) dX12_againstSwap_10 rfl (fun r2 => ?_)
    refine g_if_ne 18 16 hX dX12_againstSwap_13 (by decide) rfl (fun _ => ?_) (fun _ => ?_)
    · refine g_aload_n 19 0 hX dX12_againstSwap_18 rfl rfl ?_
      refine g_iload_n 20 2 hX dX12_againstSwap_19 rfl rfl ?_
      refine g_callV_ip 23 hX (k_X12_ownHeight l g N M a0 x2) lk_X12_ownHeight rfl (ci := 12) rfl (Nat.le_of_ble_eq_true rfl) q_2016 q_96 (by omega) rfl (Nat.le_of_ble_eq_true rfl) (Nat.zero_le _) (Nat.zero_le _) dX12_againstSwap_20 rfl (fun r3 => ?_)
      refine g_aload_n 24 0 hX dX12_againstSwap_23 rfl rfl ?_
      refine g_iload_n 25 1 hX dX12_againstSwap_24 rfl rfl ?_
      refine g_callV_ip 28 hX (k_X12_ownHeight l g N M a0 x1) lk_X12_ownHeight rfl (ci := 12) rfl (Nat.le_of_ble_eq_true rfl) q_2016 q_96 (by omega) rfl (Nat.le_of_ble_eq_true rfl) (Nat.zero_le _) (Nat.zero_le _) dX12_againstSwap_25 rfl (fun r4 => ?_)
      refine g_isub 29 hX dX12_againstSwap_28 rfl ?_
      refine g_klI (fun v5 hv5 => ?_)
      refine g_istore_n 30 3 [(3, .int v5), (0, .ref a0), (1, .int x1), (2, .int x2)] hX dX12_againstSwap_29 rfl rfl (Nat.le_of_ble_eq_true rfl) rfl ?_
      refine g_aload_n 31 1 hX dX12_againstSwap_30 rfl rfl ?_
      refine g_iload_n 32 0 hX dX12_againstSwap_31 rfl rfl ?_
      refine g_if_le 39 35 hX dX12_againstSwap_32 (by decide) rfl (fun _ => ?_) (fun _ => ?_)
      · refine g_iload_n 40 3 hX dX12_againstSwap_39 rfl rfl ?_
        refine g_lv [1, 2, 3, 0] rfl ?_
        exact k_X12_againstSwap_40 hX hr N M a0 x1 x2 v5 a0 x2
      · refine g_iload_n 36 2 hX dX12_againstSwap_35 rfl rfl ?_
        refine g_goto 40 hX dX12_againstSwap_36 (by decide) ?_
        refine g_lv [1, 2, 3, 0] rfl ?_
        exact k_X12_againstSwap_40 hX hr N M a0 x1 x2 v5 a0 x1
    · refine g_iconst 17 hX 5 dX12_againstSwap_16 rfl kc_i_5 ?_
      exact g_iret hX hr rfl (Nat.le_refl 0) (Nat.le_refl 0) dX12_againstSwap_17
set_option maxRecDepth 100000 in
set_option maxHeartbeats 4000000 in
theorem k_X12_buys (l : Launch) (g : kG) (N : Nat) (M : kMem) (a0 : Nat) (x1 : Int32) (x2 : Int32) (x3 : Int32) : kMet l g yX12_buys cX12_buys 5 (some .int) 7 0 0 [.ref a0, .int x1, .int x2, .int x3] M (fun r : Int32 × kMem => (some (.int r.1), r.2)) (F_X12_buys N M a0 x1 x2 x3) := by
  refine k_of (lv := [(0, .ref a0), (1, .int x1), (2, .int x2), (3, .int x3)]) RX12 (by decide) rfl rfl (Nat.le_of_ble_eq_true rfl) ?_
  intro p e s m args below meth c hX hr _
  unfold F_X12_buys
  refine g_aload_n 1 0 hX dX12_buys_0 rfl rfl ?_
  refine g_iload_n 2 2 hX dX12_buys_1 rfl rfl ?_
  refine g_iload_n 3 3 hX dX12_buys_2 rfl rfl ?_
  refine g_callV_ip 6 hX (k_X12_price l g N M a0 x2 x3) lk_X12_price rfl (ci := 12) rfl (Nat.le_of_ble_eq_true rfl) q_1950 q_81 (by omega) rfl (Nat.le_of_ble_eq_true rfl) (Nat.zero_le _) (Nat.zero_le _) dX12_buys_3 rfl (fun r1 => ?_)
  refine g_istore 8 4 [(4, .int r1), (0, .ref a0), (1, .int x1), (2, .int x2), (3, .int x3)] hX dX12_buys_6 rfl (Nat.le_of_ble_eq_true rfl) rfl ?_
  refine g_aload_n 9 1 hX dX12_buys_8 rfl rfl ?_
  refine g_iload_n 10 2 hX dX12_buys_9 rfl rfl ?_
  refine g_iconst 11 hX 2 dX12_buys_10 rfl kc_i_2 ?_
  refine g_callS_ip 14 hX (k_X12_atTrader l g N M x1 2) lk_X12_atTrader q_1621 (by omega) rfl (Nat.le_of_ble_eq_true rfl) (Nat.zero_le _) (Nat.zero_le _) dX12_buys_11 rfl (fun r2 => ?_)
  refine g_iconst 15 hX 5 dX12_buys_14 rfl kc_i_5 ?_
  refine g_iload 17 0 hX dX12_buys_15 rfl rfl ?_
  refine g_callV_v 20 hX (k_X12_moves l g N M a0 r2 5 r1) lk_X12_moves rfl (ci := 12) rfl (Nat.le_of_ble_eq_true rfl) q_1984 q_88 (by omega) rfl (Nat.le_of_ble_eq_true rfl) (Nat.zero_le _) (Nat.zero_le _) dX12_buys_17 rfl (fun M3 => ?_)
  refine g_aload_n 21 1 hX dX12_buys_20 rfl rfl ?_
  refine g_iload_n 22 2 hX dX12_buys_21 rfl rfl ?_
  refine g_callV_v 25 hX (k_X12_rises l g N M3 a0 x1) lk_X12_rises rfl (ci := 12) rfl (Nat.le_of_ble_eq_true rfl) q_1988 q_89 (by omega) rfl (Nat.le_of_ble_eq_true rfl) (Nat.zero_le _) (Nat.zero_le _) dX12_buys_22 rfl (fun M4 => ?_)
  refine g_aload_n 26 1 hX dX12_buys_25 rfl rfl ?_
  refine g_iload_n 27 2 hX dX12_buys_26 rfl rfl ?_
  refine g_iload_n 28 3 hX dX12_buys_27 rfl rfl ?_
  refine g_iload_n 29 4 hX dX12_buys_28 rfl rfl ?_
  refine g_callV_v 32 hX (k_X12_sits l g N M4 a0 x1 x2 x3) lk_X12_sits rfl (ci := 12) rfl (Nat.le_of_ble_eq_true rfl) q_1624 q_38 (by omega) rfl (Nat.le_of_ble_eq_true rfl) (Nat.zero_le _) (Nat.zero_le _) dX12_buys_29 rfl (fun M5 => ?_)
  refine g_aload_n 33 1 hX dX12_buys_32 rfl rfl ?_
  refine r_X12_7 36 hX dX12_buys_33 rfl ?_
  refine g_bipush 38 hX 10 dX12_buys_36 rfl kc_b_10 ?_
  refine g_dup2 39 hX dX12_buys_38 rfl rfl rfl ?_
  refine g_iald 40 hX dX12_buys_39 rfl ?_
  refine g_iconst 41 hX 1 dX12_buys_40 rfl kc_i_1 ?_
  refine g_iadd 42 hX dX12_buys_41 rfl ?_
  refine g_iast 43 hX dX12_buys_42 rfl ?_
  refine g_klM (fun M6 hM6 => ?_)
  refine g_iload 45 0 hX dX12_buys_43 rfl rfl ?_
  exact g_iret hX hr rfl (Nat.le_refl 0) (Nat.le_refl 0) dX12_buys_45
set_option maxRecDepth 100000 in
set_option maxHeartbeats 4000000 in
theorem k_X12_sells (l : Launch) (g : kG) (N : Nat) (M : kMem) (a0 : Nat) (x1 : Int32) (x2 : Int32) (x3 : Int32) : kMet l g yX12_sells cX12_sells 5 (some .int) 8 0 0 [.ref a0, .int x1, .int x2, .int x3] M (fun r : Int32 × kMem => (some (.int r.1), r.2)) (F_X12_sells N M a0 x1 x2 x3) := by
  refine k_of (lv := [(0, .ref a0), (1, .int x1), (2, .int x2), (3, .int x3)]) RX12 (by decide) rfl rfl (Nat.le_of_ble_eq_true rfl) ?_
  intro p e s m args below meth c hX hr _
  unfold F_X12_sells
  refine g_iload_n 1 3 hX dX12_sells_0 rfl rfl ?_
  refine g_aload_n 2 0 hX dX12_sells_1 rfl rfl ?_
  refine g_iload_n 3 1 hX dX12_sells_2 rfl rfl ?_
  refine g_iload_n 4 2 hX dX12_sells_3 rfl rfl ?_
  refine g_callV_ip 7 hX (k_X12_unitPrice l g N M a0 x1 x2) lk_X12_unitPrice rfl (ci := 12) rfl (Nat.le_of_ble_eq_true rfl) q_2012 q_95 (by omega) rfl (Nat.le_of_ble_eq_true rfl) (Nat.zero_le _) (Nat.zero_le _) dX12_sells_4 rfl (fun r1 => ?_)
  refine g_imul 8 hX dX12_sells_7 rfl ?_
  refine g_klI (fun v2 hv2 => ?_)
  refine g_istore 10 4 [(4, .int v2), (0, .ref a0), (1, .int x1), (2, .int x2), (3, .int x3)] hX dX12_sells_8 rfl (Nat.le_of_ble_eq_true rfl) rfl ?_
  refine g_aload_n 11 1 hX dX12_sells_10 rfl rfl ?_
  refine g_iload_n 12 3 hX dX12_sells_11 rfl rfl ?_
  refine g_iconst 13 hX 2 dX12_sells_12 rfl kc_i_2 ?_
  refine g_callS_ip 16 hX (k_X12_atTrader l g N M x2 2) lk_X12_atTrader q_1621 (by omega) rfl (Nat.le_of_ble_eq_true rfl) (Nat.zero_le _) (Nat.zero_le _) dX12_sells_13 rfl (fun r3 => ?_)
  refine g_iload_n 17 2 hX dX12_sells_16 rfl rfl ?_
  refine g_iconst 18 hX 2 dX12_sells_17 rfl kc_i_2 ?_
  refine g_callS_ip 21 hX (k_X12_atTrader l g N M x1 2) lk_X12_atTrader q_1621 (by omega) rfl (Nat.le_of_ble_eq_true rfl) (Nat.zero_le _) (Nat.zero_le _) dX12_sells_18 rfl (fun r4 => ?_)
  refine g_iload 23 0 hX dX12_sells_21 rfl rfl ?_
  refine g_callV_v 26 hX (k_X12_moves l g N M a0 r3 r4 v2) lk_X12_moves rfl (ci := 12) rfl (Nat.le_of_ble_eq_true rfl) q_1984 q_88 (by omega) rfl (Nat.le_of_ble_eq_true rfl) (Nat.zero_le _) (Nat.zero_le _) dX12_sells_23 rfl (fun M5 => ?_)
  refine g_aload_n 27 1 hX dX12_sells_26 rfl rfl ?_
  refine r_X12_7 30 hX dX12_sells_27 rfl ?_
  refine g_iload_n 31 2 hX dX12_sells_30 rfl rfl ?_
  refine g_iconst 32 hX 1 dX12_sells_31 rfl kc_i_1 ?_
  refine g_callS_ip 35 hX (k_X12_atTrader l g N M5 x1 1) lk_X12_atTrader q_1621 (by omega) rfl (Nat.le_of_ble_eq_true rfl) (Nat.zero_le _) (Nat.zero_le _) dX12_sells_32 rfl (fun r6 => ?_)
  refine g_dup2 36 hX dX12_sells_35 rfl rfl rfl ?_
  refine g_iald 37 hX dX12_sells_36 rfl ?_
  refine g_iload_n 38 4 hX dX12_sells_37 rfl rfl ?_
  refine g_isub 39 hX dX12_sells_38 rfl ?_
  refine g_iast 40 hX dX12_sells_39 rfl ?_
  refine g_klM (fun M7 hM7 => ?_)
  refine g_aload_n 41 1 hX dX12_sells_40 rfl rfl ?_
  refine r_X12_7 44 hX dX12_sells_41 rfl ?_
  refine g_iload_n 45 3 hX dX12_sells_44 rfl rfl ?_
  refine g_iconst 46 hX 1 dX12_sells_45 rfl kc_i_1 ?_
  refine g_callS_ip 49 hX (k_X12_atTrader l g N M7 x2 1) lk_X12_atTrader q_1621 (by omega) rfl (Nat.le_of_ble_eq_true rfl) (Nat.zero_le _) (Nat.zero_le _) dX12_sells_46 rfl (fun r8 => ?_)
  refine g_dup2 50 hX dX12_sells_49 rfl rfl rfl ?_
  refine g_iald 51 hX dX12_sells_50 rfl ?_
  refine g_iload_n 52 4 hX dX12_sells_51 rfl rfl ?_
  refine g_iadd 53 hX dX12_sells_52 rfl ?_
  refine g_iast 54 hX dX12_sells_53 rfl ?_
  refine g_klM (fun M9 hM9 => ?_)
  refine g_aload_n 55 1 hX dX12_sells_54 rfl rfl ?_
  refine r_X12_7 58 hX dX12_sells_55 rfl ?_
  refine g_bipush 60 hX 11 dX12_sells_58 rfl kc_b_11 ?_
  refine g_dup2 61 hX dX12_sells_60 rfl rfl rfl ?_
  refine g_iald 62 hX dX12_sells_61 rfl ?_
  refine g_iload_n 63 4 hX dX12_sells_62 rfl rfl ?_
  refine g_iadd 64 hX dX12_sells_63 rfl ?_
  refine g_iast 65 hX dX12_sells_64 rfl ?_
  refine g_klM (fun M10 hM10 => ?_)
  refine g_iload 67 0 hX dX12_sells_65 rfl rfl ?_
  exact g_iret hX hr rfl (Nat.le_refl 0) (Nat.le_refl 0) dX12_sells_67
set_option maxRecDepth 100000 in
set_option maxHeartbeats 4000000 in
theorem k_X12_swaps_35 {p : Program} {l : Launch} {e : Env} {s : State} {m : MethodId} {args : Array Value} {below : List Frame} {meth : Method} {c : Code} {g : kG} (hX : Cok (p, l, e, { frames := 2 * 7, cells := 0, slots := 0, locals := 60 * 7 }, s, m, args, below, meth, c, cX12_swaps, 6, RX12, g, 7)) (hr : meth.sig.returnType = (some .int)) (N : Nat) : ∀ (M : kMem) (a0 : Nat) (x1 : Int32) (x2 : Int32) (x3 : Int32) (y0 : Nat) (y1 : Int32) (y2 : Int32), GG (p, l, e, { frames := 2 * 7, cells := 0, slots := 0, locals := 60 * 7 }, s, m, args, below, meth, c, cX12_swaps, 6, RX12, g, 7) (fun b => MQ below (kQ g ((fun r : Int32 × kMem => (some (.int r.1), r.2)) b)) args s 0 0 (kZ g.2.2.1)) 0 0 (F_X12_swaps_35 N M a0 x1 x2 x3 y0 y1 y2) 35 [(0, .ref a0), (1, .int x1), (2, .int x2), (3, .int x3)] [.int y2, .int y1, .ref y0] M := by
  intro M a0 x1 x2 x3 y0 y1 y2
  unfold F_X12_swaps_35
  refine g_iconst 36 hX 2 dX12_swaps_35 rfl kc_i_2 ?_
  refine g_callS_ip 39 hX (k_X12_atTrader l g N M y2 2) lk_X12_atTrader q_1621 (by omega) rfl (Nat.le_of_ble_eq_true rfl) (Nat.zero_le _) (Nat.zero_le _) dX12_swaps_36 rfl (fun r5 => ?_)
  refine g_iload_n 40 3 hX dX12_swaps_39 rfl rfl ?_
  refine g_callS_ip 43 hX (k_X12_bare l g N M x3) lk_X12_bare q_1954 (by omega) rfl (Nat.le_of_ble_eq_true rfl) (Nat.zero_le _) (Nat.zero_le _) dX12_swaps_40 rfl (fun r6 => ?_)
  refine g_callV_v 46 hX (k_X12_moves l g N M y0 y1 r5 r6) lk_X12_moves rfl (ci := 12) rfl (Nat.le_of_ble_eq_true rfl) q_1984 q_88 (by omega) rfl (Nat.le_of_ble_eq_true rfl) (Nat.zero_le _) (Nat.zero_le _) dX12_swaps_43 rfl (fun M7 => ?_)
  refine g_aload_n 47 0 hX dX12_swaps_46 rfl rfl ?_
  refine g_iload_n 48 1 hX dX12_swaps_47 rfl rfl ?_
  refine g_iconst 49 hX 5 dX12_swaps_48 rfl kc_i_5 ?_
  refine g_callV_ip 52 hX (k_X12_has l g N M7 a0 x1 5) lk_X12_has rfl (ci := 12) rfl (Nat.le_of_ble_eq_true rfl) q_1635 q_40 (by omega) rfl (Nat.le_of_ble_eq_true rfl) (Nat.zero_le _) (Nat.zero_le _) dX12_swaps_49 rfl (fun r8 => ?_)
  refine g_istore 54 4 [(4, .int r8), (0, .ref a0), (1, .int x1), (2, .int x2), (3, .int x3)] hX dX12_swaps_52 rfl (Nat.le_of_ble_eq_true rfl) rfl ?_
  refine g_aload_n 55 1 hX dX12_swaps_54 rfl rfl ?_
  refine g_iload_n 56 2 hX dX12_swaps_55 rfl rfl ?_
  refine g_bipush 58 hX 6 dX12_swaps_56 rfl kc_b_6 ?_
  refine g_callV_ip 61 hX (k_X12_has l g N M7 a0 x1 6) lk_X12_has rfl (ci := 12) rfl (Nat.le_of_ble_eq_true rfl) q_1635 q_40 (by omega) rfl (Nat.le_of_ble_eq_true rfl) (Nat.zero_le _) (Nat.zero_le _) dX12_swaps_58 rfl (fun r9 => ?_)
  refine g_istore 63 5 [(5, .int r9), (4, .int r8), (0, .ref a0), (1, .int x1), (2, .int x2), (3, .int x3)] hX dX12_swaps_61 rfl (Nat.le_of_ble_eq_true rfl) rfl ?_
  refine g_aload_n 64 2 hX dX12_swaps_63 rfl rfl ?_
  refine g_iload_n 65 3 hX dX12_swaps_64 rfl rfl ?_
  refine g_aload_n 66 2 hX dX12_swaps_65 rfl rfl ?_
  refine g_iload_n 67 4 hX dX12_swaps_66 rfl rfl ?_
  refine g_iconst 68 hX 5 dX12_swaps_67 rfl kc_i_5 ?_
  refine g_callV_ip 71 hX (k_X12_has l g N M7 a0 x2 5) lk_X12_has rfl (ci := 12) rfl (Nat.le_of_ble_eq_true rfl) q_1635 q_40 (by omega) rfl (Nat.le_of_ble_eq_true rfl) (Nat.zero_le _) (Nat.zero_le _) dX12_swaps_68 rfl (fun r10 => ?_)
  refine g_aload_n 72 2 hX dX12_swaps_71 rfl rfl ?_
  refine g_iload_n 73 4 hX dX12_swaps_72 rfl rfl ?_
  refine g_bipush 75 hX 6 dX12_swaps_73 rfl kc_b_6 ?_
  refine g_callV_ip 78 hX (k_X12_has l g N M7 a0 x2 6) lk_X12_has rfl (ci := 12) rfl (Nat.le_of_ble_eq_true rfl) q_1635 q_40 (by omega) rfl (Nat.le_of_ble_eq_true rfl) (Nat.zero_le _) (Nat.zero_le _) dX12_swaps_75 rfl (fun r11 => ?_)
  refine g_callV_v 81 hX (k_X12_sits l g N M7 a0 x1 r10 r11) lk_X12_sits rfl (ci := 12) rfl (Nat.le_of_ble_eq_true rfl) q_1624 q_38 (by omega) rfl (Nat.le_of_ble_eq_true rfl) (Nat.zero_le _) (Nat.zero_le _) dX12_swaps_78 rfl (fun M12 => ?_)
  refine g_aload_n 82 2 hX dX12_swaps_81 rfl rfl ?_
  refine g_iload_n 83 4 hX dX12_swaps_82 rfl rfl ?_
  refine g_iload 85 1 hX dX12_swaps_83 rfl rfl ?_
  refine g_iload 87 0 hX dX12_swaps_85 rfl rfl ?_
  refine g_callV_v 90 hX (k_X12_sits l g N M12 a0 x2 r8 r9) lk_X12_sits rfl (ci := 12) rfl (Nat.le_of_ble_eq_true rfl) q_1624 q_38 (by omega) rfl (Nat.le_of_ble_eq_true rfl) (Nat.zero_le _) (Nat.zero_le _) dX12_swaps_87 rfl (fun M13 => ?_)
  refine g_iload_n 91 5 hX dX12_swaps_90 rfl rfl ?_
  exact g_iret hX hr rfl (Nat.le_refl 0) (Nat.le_refl 0) dX12_swaps_91
set_option maxRecDepth 100000 in
set_option maxHeartbeats 4000000 in
theorem k_X12_swaps_22 {p : Program} {l : Launch} {e : Env} {s : State} {m : MethodId} {args : Array Value} {below : List Frame} {meth : Method} {c : Code} {g : kG} (hX : Cok (p, l, e, { frames := 2 * 7, cells := 0, slots := 0, locals := 60 * 7 }, s, m, args, below, meth, c, cX12_swaps, 6, RX12, g, 7)) (hr : meth.sig.returnType = (some .int)) (N : Nat) : ∀ (M : kMem) (a0 : Nat) (x1 : Int32) (x2 : Int32) (x3 : Int32) (y0 : Nat) (y1 : Int32), GG (p, l, e, { frames := 2 * 7, cells := 0, slots := 0, locals := 60 * 7 }, s, m, args, below, meth, c, cX12_swaps, 6, RX12, g, 7) (fun b => MQ below (kQ g ((fun r : Int32 × kMem => (some (.int r.1), r.2)) b)) args s 0 0 (kZ g.2.2.1)) 0 0 (F_X12_swaps_22 N M a0 x1 x2 x3 y0 y1) 22 [(0, .ref a0), (1, .int x1), (2, .int x2), (3, .int x3)] [.int y1, .ref y0] M := by
  intro M a0 x1 x2 x3 y0 y1
  unfold F_X12_swaps_22
  refine g_iconst 23 hX 2 dX12_swaps_22 rfl kc_i_2 ?_
  refine g_callS_ip 26 hX (k_X12_atTrader l g N M y1 2) lk_X12_atTrader q_1621 (by omega) rfl (Nat.le_of_ble_eq_true rfl) (Nat.zero_le _) (Nat.zero_le _) dX12_swaps_23 rfl (fun r4 => ?_)
  refine g_iload_n 27 3 hX dX12_swaps_26 rfl rfl ?_
  refine g_if_le 34 30 hX dX12_swaps_27 (by decide) rfl (fun _ => ?_) (fun _ => ?_)
  · refine g_iload_n 35 1 hX dX12_swaps_34 rfl rfl ?_
    exact k_X12_swaps_35 hX hr N M a0 x1 x2 x3 y0 r4 x1
  · refine g_iload_n 31 2 hX dX12_swaps_30 rfl rfl ?_
    refine g_goto 35 hX dX12_swaps_31 (by decide) ?_
    exact k_X12_swaps_35 hX hr N M a0 x1 x2 x3 y0 r4 x2
set_option maxRecDepth 100000 in
set_option maxHeartbeats 4000000 in
theorem k_X12_swaps (l : Launch) (g : kG) (N : Nat) (M : kMem) (a0 : Nat) (x1 : Int32) (x2 : Int32) : kMet l g yX12_swaps cX12_swaps 6 (some .int) 7 0 0 [.ref a0, .int x1, .int x2] M (fun r : Int32 × kMem => (some (.int r.1), r.2)) (F_X12_swaps N M a0 x1 x2) := by
  refine k_of (lv := [(0, .ref a0), (1, .int x1), (2, .int x2)]) RX12 (by decide) rfl rfl (Nat.le_of_ble_eq_true rfl) ?_
  intro p e s m args below meth c hX hr _
  unfold F_X12_swaps
  refine g_aload_n 1 0 hX dX12_swaps_0 rfl rfl ?_
  refine g_iload_n 2 2 hX dX12_swaps_1 rfl rfl ?_
  refine g_callV_ip 5 hX (k_X12_ownHeight l g N M a0 x2) lk_X12_ownHeight rfl (ci := 12) rfl (Nat.le_of_ble_eq_true rfl) q_2016 q_96 (by omega) rfl (Nat.le_of_ble_eq_true rfl) (Nat.zero_le _) (Nat.zero_le _) dX12_swaps_2 rfl (fun r1 => ?_)
  refine g_aload_n 6 0 hX dX12_swaps_5 rfl rfl ?_
  refine g_iload_n 7 1 hX dX12_swaps_6 rfl rfl ?_
  refine g_callV_ip 10 hX (k_X12_ownHeight l g N M a0 x1) lk_X12_ownHeight rfl (ci := 12) rfl (Nat.le_of_ble_eq_true rfl) q_2016 q_96 (by omega) rfl (Nat.le_of_ble_eq_true rfl) (Nat.zero_le _) (Nat.zero_le _) dX12_swaps_7 rfl (fun r2 => ?_)
  refine g_isub 11 hX dX12_swaps_10 rfl ?_
  refine g_klI (fun v3 hv3 => ?_)
  refine g_istore_n 12 3 [(3, .int v3), (0, .ref a0), (1, .int x1), (2, .int x2)] hX dX12_swaps_11 rfl rfl (Nat.le_of_ble_eq_true rfl) rfl ?_
  refine g_aload_n 13 1 hX dX12_swaps_12 rfl rfl ?_
  refine g_iload_n 14 0 hX dX12_swaps_13 rfl rfl ?_
  refine g_if_le 21 17 hX dX12_swaps_14 (by decide) rfl (fun _ => ?_) (fun _ => ?_)
  · refine g_iload_n 22 3 hX dX12_swaps_21 rfl rfl ?_
    refine g_lv [1, 2, 3, 0] rfl ?_
    exact k_X12_swaps_22 hX hr N M a0 x1 x2 v3 a0 x2
  · refine g_iload_n 18 2 hX dX12_swaps_17 rfl rfl ?_
    refine g_goto 22 hX dX12_swaps_18 (by decide) ?_
    refine g_lv [1, 2, 3, 0] rfl ?_
    exact k_X12_swaps_22 hX hr N M a0 x1 x2 v3 a0 x1
set_option maxRecDepth 100000 in
set_option maxHeartbeats 4000000 in
theorem k_X12_joins (l : Launch) (g : kG) (N : Nat) (M : kMem) (a0 : Nat) (x1 : Int32) (x2 : Int32) (x3 : Int32) : kMet l g yX12_joins cX12_joins 4 (some .int) 3 0 0 [.ref a0, .int x1, .int x2, .int x3] M (fun r : Int32 × kMem => (some (.int r.1), r.2)) (F_X12_joins N M a0 x1 x2 x3) := by
  refine k_of (lv := [(0, .ref a0), (1, .int x1), (2, .int x2), (3, .int x3)]) RX12 (by decide) rfl rfl (Nat.le_of_ble_eq_true rfl) ?_
  intro p e s m args below meth c hX hr _
  unfold F_X12_joins
  refine g_aload_n 1 0 hX dX12_joins_0 rfl rfl ?_
  refine g_iload_n 2 1 hX dX12_joins_1 rfl rfl ?_
  refine g_iload_n 3 2 hX dX12_joins_2 rfl rfl ?_
  refine g_iload_n 4 3 hX dX12_joins_3 rfl rfl ?_
  refine g_iconst 5 hX 0 dX12_joins_4 rfl kc_i_0 ?_
  refine g_callV_v 8 hX (k_X12_appears l g N M a0 x1 x2 x3 0) lk_X12_appears rfl (ci := 12) rfl (Nat.le_of_ble_eq_true rfl) q_1617 q_37 (by omega) rfl (Nat.le_of_ble_eq_true rfl) (Nat.zero_le _) (Nat.zero_le _) dX12_joins_5 rfl (fun M1 => ?_)
  refine g_aload_n 9 0 hX dX12_joins_8 rfl rfl ?_
  refine r_X12_7 12 hX dX12_joins_9 rfl ?_
  refine g_bipush 14 hX 9 dX12_joins_12 rfl kc_b_9 ?_
  refine g_dup2 15 hX dX12_joins_14 rfl rfl rfl ?_
  refine g_iald 16 hX dX12_joins_15 rfl ?_
  refine g_iload_n 17 3 hX dX12_joins_16 rfl rfl ?_
  refine g_iadd 18 hX dX12_joins_17 rfl ?_
  refine g_iast 19 hX dX12_joins_18 rfl ?_
  refine g_klM (fun M2 hM2 => ?_)
  refine g_aload_n 20 0 hX dX12_joins_19 rfl rfl ?_
  refine r_X12_7 23 hX dX12_joins_20 rfl ?_
  refine g_bipush 25 hX 8 dX12_joins_23 rfl kc_b_8 ?_
  refine g_iald 26 hX dX12_joins_25 rfl ?_
  refine g_iconst 27 hX 1 dX12_joins_26 rfl kc_i_1 ?_
  refine g_isub 28 hX dX12_joins_27 rfl ?_
  exact g_iret hX hr rfl (Nat.le_refl 0) (Nat.le_refl 0) dX12_joins_28
set_option maxRecDepth 100000 in
set_option maxHeartbeats 4000000 in
theorem k_X12_leaves (l : Launch) (g : kG) (N : Nat) (M : kMem) (a0 : Nat) (x1 : Int32) : kMet l g yX12_leaves cX12_leaves 3 (some .int) 5 0 0 [.ref a0, .int x1] M (fun r : Int32 × kMem => (some (.int r.1), r.2)) (F_X12_leaves N M a0 x1) := by
  refine k_of (lv := [(0, .ref a0), (1, .int x1)]) RX12 (by decide) rfl rfl (Nat.le_of_ble_eq_true rfl) ?_
  intro p e s m args below meth c hX hr _
  unfold F_X12_leaves
  refine g_aload_n 1 0 hX dX12_leaves_0 rfl rfl ?_
  refine g_iload_n 2 1 hX dX12_leaves_1 rfl rfl ?_
  refine g_iconst 3 hX 5 dX12_leaves_2 rfl kc_i_5 ?_
  refine g_callV_ip 6 hX (k_X12_has l g N M a0 x1 5) lk_X12_has rfl (ci := 12) rfl (Nat.le_of_ble_eq_true rfl) q_1635 q_40 (by omega) rfl (Nat.le_of_ble_eq_true rfl) (Nat.zero_le _) (Nat.zero_le _) dX12_leaves_3 rfl (fun r1 => ?_)
  refine g_istore_n 7 2 [(2, .int r1), (0, .ref a0), (1, .int x1)] hX dX12_leaves_6 rfl rfl (Nat.le_of_ble_eq_true rfl) rfl ?_
  refine g_aload_n 8 1 hX dX12_leaves_7 rfl rfl ?_
  refine g_iload_n 9 2 hX dX12_leaves_8 rfl rfl ?_
  refine g_callV_v 12 hX (k_X12_rises l g N M a0 x1) lk_X12_rises rfl (ci := 12) rfl (Nat.le_of_ble_eq_true rfl) q_1988 q_89 (by omega) rfl (Nat.le_of_ble_eq_true rfl) (Nat.zero_le _) (Nat.zero_le _) dX12_leaves_9 rfl (fun M2 => ?_)
  refine g_iload_n 13 0 hX dX12_leaves_12 rfl rfl ?_
  exact g_iret hX hr rfl (Nat.le_refl 0) (Nat.le_refl 0) dX12_leaves_13
set_option maxRecDepth 100000 in
set_option maxHeartbeats 4000000 in
theorem k_X12_setsWage (l : Launch) (g : kG) (N : Nat) (M : kMem) (a0 : Nat) (x1 : Int32) : kMet l g yX12_setsWage cX12_setsWage 3 (some .int) 1 0 0 [.ref a0, .int x1] M (fun r : Int32 × kMem => (some (.int r.1), r.2)) (F_X12_setsWage N M a0 x1) := by
  refine k_of (lv := [(0, .ref a0), (1, .int x1)]) RX12 (by decide) rfl rfl (Nat.le_of_ble_eq_true rfl) ?_
  intro p e s m args below meth c hX hr _
  unfold F_X12_setsWage
  refine g_aload_n 1 0 hX dX12_setsWage_0 rfl rfl ?_
  refine r_X12_7 4 hX dX12_setsWage_1 rfl ?_
  refine g_iconst 5 hX 0 dX12_setsWage_4 rfl kc_i_0 ?_
  refine g_iald 6 hX dX12_setsWage_5 rfl ?_
  refine g_klI (fun v1 hv1 => ?_)
  refine g_istore_n 7 2 [(2, .int v1), (0, .ref a0), (1, .int x1)] hX dX12_setsWage_6 rfl rfl (Nat.le_of_ble_eq_true rfl) rfl ?_
  refine g_aload_n 8 1 hX dX12_setsWage_7 rfl rfl ?_
  refine r_X12_7 11 hX dX12_setsWage_8 rfl ?_
  refine g_iconst 12 hX 0 dX12_setsWage_11 rfl kc_i_0 ?_
  refine g_iload_n 13 2 hX dX12_setsWage_12 rfl rfl ?_
  refine g_iast 14 hX dX12_setsWage_13 rfl ?_
  refine g_klM (fun M2 hM2 => ?_)
  refine g_iload_n 15 0 hX dX12_setsWage_14 rfl rfl ?_
  exact g_iret hX hr rfl (Nat.le_refl 0) (Nat.le_refl 0) dX12_setsWage_15
set_option maxRecDepth 100000 in
set_option maxHeartbeats 4000000 in
theorem k_X12_bytesIn_5 {p : Program} {l : Launch} {e : Env} {s : State} {m : MethodId} {args : Array Value} {below : List Frame} {meth : Method} {c : Code} {g : kG} (hX : Cok (p, l, e, { frames := 2 * 1, cells := 0, slots := 0, locals := 60 * 1 }, s, m, args, below, meth, c, cX12_bytesIn, 4, RX12, g, 1)) (hr : meth.sig.returnType = (some .int)) (N : Nat) (M : kMem) : ∀ (n : Nat) (x1 : Int32) (x2 : Int32) (x3 : Int32), GG (p, l, e, { frames := 2 * 1, cells := 0, slots := 0, locals := 60 * 1 }, s, m, args, below, meth, c, cX12_bytesIn, 4, RX12, g, 1) (fun b => MQ below (kQ g ((fun r : Int32 => (some (.int r), M)) b)) args s 0 0 (kZ g.2.2.1)) 0 0 (F_X12_bytesIn_5 N M n x1 x2 x3) 5 [(1, .int x1), (2, .int x2), (3, .int x3)] [] M := by
  intro n
  induction n with
  | zero => intro _ _ _; exact g_none
  | succ n ih =>
    intro x1 x2 x3
    unfold F_X12_bytesIn_5
    refine g_iload_n 6 2 hX dX12_bytesIn_5 rfl rfl ?_
    refine g_if_lt 33 9 hX dX12_bytesIn_6 (by decide) rfl (fun _ => ?_) (fun _ => ?_)
    · refine g_iload_n 34 1 hX dX12_bytesIn_33 rfl rfl ?_
      exact g_iret hX hr rfl (Nat.le_refl 0) (Nat.le_refl 0) dX12_bytesIn_34
    · refine g_iload_n 10 1 hX dX12_bytesIn_9 rfl rfl ?_
      refine g_iload_n 11 0 hX dX12_bytesIn_10 rfl rfl ?_
      refine g_iload_n 12 2 hX dX12_bytesIn_11 rfl rfl ?_
      refine g_ishr 13 hX dX12_bytesIn_12 rfl ?_
      refine g_sipush 16 hX 255 dX12_bytesIn_13 rfl kc_s_255 ?_
      refine g_iand 17 hX dX12_bytesIn_16 rfl ?_
      refine g_if_eq 24 20 hX dX12_bytesIn_17 (by decide) rfl (fun _ => ?_) (fun _ => ?_)
      · refine g_iconst 25 hX 0 dX12_bytesIn_24 rfl kc_i_0 ?_
        refine g_iadd 26 hX dX12_bytesIn_25 rfl ?_
        refine g_klI (fun v1 hv1 => ?_)
        refine g_istore_n 27 2 [(2, .int v1), (1, .int x1), (3, .int x3)] hX dX12_bytesIn_26 rfl rfl (Nat.le_of_ble_eq_true rfl) rfl ?_
        refine g_kl (fun v2 hv2 => ?_)
        refine g_iinc 30 3 2 v2 [(3, .int v2), (2, .int v1), (1, .int x1)] hX dX12_bytesIn_27 rfl rfl (by rw [hv2, kc_i_m8]) (Nat.le_of_ble_eq_true rfl) rfl ?_
        refine g_goto 5 hX dX12_bytesIn_30 (by decide) ?_
        refine g_lv [2, 1, 0] rfl ?_
        exact ih x1 v1 v2
      · refine g_iconst 21 hX 1 dX12_bytesIn_20 rfl kc_i_1 ?_
        refine g_goto 25 hX dX12_bytesIn_21 (by decide) ?_
        refine g_iadd 26 hX dX12_bytesIn_25 rfl ?_
        refine g_klI (fun v3 hv3 => ?_)
        refine g_istore_n 27 2 [(2, .int v3), (1, .int x1), (3, .int x3)] hX dX12_bytesIn_26 rfl rfl (Nat.le_of_ble_eq_true rfl) rfl ?_
        refine g_kl (fun v4 hv4 => ?_)
        refine g_iinc 30 3 2 v4 [(3, .int v4), (2, .int v3), (1, .int x1)] hX dX12_bytesIn_27 rfl rfl (by rw [hv4, kc_i_m8]) (Nat.le_of_ble_eq_true rfl) rfl ?_
        refine g_goto 5 hX dX12_bytesIn_30 (by decide) ?_
        refine g_lv [2, 1, 0] rfl ?_
        exact ih x1 v3 v4
set_option maxRecDepth 100000 in
set_option maxHeartbeats 4000000 in
theorem k_X12_bytesIn (l : Launch) (g : kG) (N : Nat) (M : kMem) (a0 : Nat) (x1 : Int32) : kMet l g yX12_bytesIn cX12_bytesIn 4 (some .int) 1 0 0 [.ref a0, .int x1] M (fun r : Int32 => (some (.int r), M)) (F_X12_bytesIn N M a0 x1) := by
  refine k_of (lv := [(0, .ref a0), (1, .int x1)]) RX12 (by decide) rfl rfl (Nat.le_of_ble_eq_true rfl) ?_
  intro p e s m args below meth c hX hr _
  unfold F_X12_bytesIn
  refine g_iconst 1 hX 0 dX12_bytesIn_0 rfl kc_i_0 ?_
  refine g_istore_n 2 2 [(2, .int 0), (0, .ref a0), (1, .int x1)] hX dX12_bytesIn_1 rfl rfl (Nat.le_of_ble_eq_true rfl) rfl ?_
  refine g_bipush 4 hX 24 dX12_bytesIn_2 rfl kc_b_24 ?_
  refine g_istore_n 5 3 [(3, .int 24), (2, .int 0), (0, .ref a0), (1, .int x1)] hX dX12_bytesIn_4 rfl rfl (Nat.le_of_ble_eq_true rfl) rfl ?_
  refine g_lv [3, 1, 0] rfl ?_
  exact k_X12_bytesIn_5 hX hr N M N x1 0 24
