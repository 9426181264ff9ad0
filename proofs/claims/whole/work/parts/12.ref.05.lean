set_option maxRecDepth 100000 in
set_option maxHeartbeats 4000000 in
theorem k_X12_daysUntilRetirement (l : Launch) (g : kG) (N : Nat) (M : kMem) (a0 : Nat) (x1 : Int32) : kMet l g yX12_daysUntilRetirement cX12_daysUntilRetirement 2 (some .int) 3 0 0 [.ref a0, .int x1] M (fun r : Int32 × kMem => (some (.int r.1), r.2)) (F_X12_daysUntilRetirement N M a0 x1) := by
  refine k_of (lv := [(0, .ref a0), (1, .int x1)]) RX12 (by decide) rfl rfl (Nat.le_of_ble_eq_true rfl) ?_
  intro p e s m args below meth c hX hr _
  unfold F_X12_daysUntilRetirement
  refine g_aload_n 1 0 hX dX12_daysUntilRetirement_0 rfl rfl ?_
  refine g_iconst 2 hX 0 dX12_daysUntilRetirement_1 rfl kc_i_0 ?_
  refine p_X12_63 5 hX dX12_daysUntilRetirement_2 rfl ?_
  refine g_klM (fun M1 hM1 => ?_)
  refine g_aload_n 6 0 hX dX12_daysUntilRetirement_5 rfl rfl ?_
  refine g_iload_n 7 1 hX dX12_daysUntilRetirement_6 rfl rfl ?_
  refine g_callV_i 10 hX (k_X12_noTrader l g N M1 a0 x1) lk_X12_noTrader rfl (ci := 12) rfl (Nat.le_of_ble_eq_true rfl) q_2094 q_111 (by omega) rfl (Nat.le_of_ble_eq_true rfl) (Nat.zero_le _) (Nat.zero_le _) dX12_daysUntilRetirement_7 rfl (fun r2 => ?_)
  refine g_if_ne 22 13 hX dX12_daysUntilRetirement_10 (by decide) rfl (fun _ => ?_) (fun _ => ?_)
  · refine g_iconst 23 hX 0 dX12_daysUntilRetirement_22 rfl kc_i_0 ?_
    refine g_goto 41 hX dX12_daysUntilRetirement_23 (by decide) ?_
    exact g_iret hX hr rfl (Nat.le_refl 0) (Nat.le_refl 0) dX12_daysUntilRetirement_41
  · refine g_aload_n 14 0 hX dX12_daysUntilRetirement_13 rfl rfl ?_
    refine g_iload_n 15 1 hX dX12_daysUntilRetirement_14 rfl rfl ?_
    refine g_iconst 16 hX 4 dX12_daysUntilRetirement_15 rfl kc_i_4 ?_
    refine g_callV_ip 19 hX (k_X12_has l g N r2.2 a0 x1 4) lk_X12_has rfl (ci := 12) rfl (Nat.le_of_ble_eq_true rfl) q_1635 q_40 (by omega) rfl (Nat.le_of_ble_eq_true rfl) (Nat.zero_le _) (Nat.zero_le _) dX12_daysUntilRetirement_16 rfl (fun r3 => ?_)
    refine g_if_ne 26 22 hX dX12_daysUntilRetirement_19 (by decide) rfl (fun _ => ?_) (fun _ => ?_)
    · refine g_aload_n 27 0 hX dX12_daysUntilRetirement_26 rfl rfl ?_
      refine r_X12_7 30 hX dX12_daysUntilRetirement_27 rfl ?_
      refine g_iconst 31 hX 3 dX12_daysUntilRetirement_30 rfl kc_i_3 ?_
      refine g_iald 32 hX dX12_daysUntilRetirement_31 rfl ?_
      refine g_iconst 33 hX 1 dX12_daysUntilRetirement_32 rfl kc_i_1 ?_
      refine g_iadd 34 hX dX12_daysUntilRetirement_33 rfl ?_
      refine g_aload_n 35 0 hX dX12_daysUntilRetirement_34 rfl rfl ?_
      refine g_iload_n 36 1 hX dX12_daysUntilRetirement_35 rfl rfl ?_
      refine g_iconst 37 hX 3 dX12_daysUntilRetirement_36 rfl kc_i_3 ?_
      refine g_callV_ip 40 hX (k_X12_has l g N r2.2 a0 x1 3) lk_X12_has rfl (ci := 12) rfl (Nat.le_of_ble_eq_true rfl) q_1635 q_40 (by omega) rfl (Nat.le_of_ble_eq_true rfl) (Nat.zero_le _) (Nat.zero_le _) dX12_daysUntilRetirement_37 rfl (fun r4 => ?_)
      refine g_isub 41 hX dX12_daysUntilRetirement_40 rfl ?_
      exact g_iret hX hr rfl (Nat.le_refl 0) (Nat.le_refl 0) dX12_daysUntilRetirement_41
    · refine g_iconst 23 hX 0 dX12_daysUntilRetirement_22 rfl kc_i_0 ?_
      refine g_goto 41 hX dX12_daysUntilRetirement_23 (by decide) ?_
      exact g_iret hX hr rfl (Nat.le_refl 0) (Nat.le_refl 0) dX12_daysUntilRetirement_41
set_option maxRecDepth 100000 in
set_option maxHeartbeats 4000000 in
theorem k_X12_writes (l : Launch) (g : kG) (N : Nat) (M : kMem) (a0 : Nat) (x1 : Int32) : kMet l g yX12_writes cX12_writes 2 none 1 0 0 [.ref a0, .int x1] M (fun r : kMem => (none, r)) (F_X12_writes N M a0 x1) := by
  refine k_of (lv := [(0, .ref a0), (1, .int x1)]) RX12 (by decide) rfl rfl (Nat.le_of_ble_eq_true rfl) ?_
  intro p e s m args below meth c hX hr _
  unfold F_X12_writes
  refine g_aload_n 1 0 hX dX12_writes_0 rfl rfl ?_
  refine r_X12_45 4 hX dX12_writes_1 rfl ?_
  refine g_aload_n 5 0 hX dX12_writes_4 rfl rfl ?_
  refine r_X12_484 8 hX dX12_writes_5 rfl ?_
  refine g_iload_n 9 1 hX dX12_writes_8 rfl rfl ?_
  refine g_iast 10 hX dX12_writes_9 rfl ?_
  refine g_klM (fun M1 hM1 => ?_)
  refine g_aload_n 11 0 hX dX12_writes_10 rfl rfl ?_
  refine g_dup 12 hX dX12_writes_11 rfl rfl ?_
  refine r_X12_484 15 hX dX12_writes_12 rfl ?_
  refine g_iconst 16 hX 1 dX12_writes_15 rfl kc_i_1 ?_
  refine g_iadd 17 hX dX12_writes_16 rfl ?_
  refine p_X12_484 20 hX dX12_writes_17 rfl ?_
  refine g_klM (fun M2 hM2 => ?_)
  exact g_vret hX hr rfl (Nat.le_refl 0) (Nat.le_refl 0) dX12_writes_20
set_option maxRecDepth 100000 in
set_option maxHeartbeats 4000000 in
theorem k_X12_writesSeat_22 {p : Program} {l : Launch} {e : Env} {s : State} {m : MethodId} {args : Array Value} {below : List Frame} {meth : Method} {c : Code} {g : kG} (hX : Cok (p, l, e, { frames := 2 * 4, cells := 0, slots := 0, locals := 60 * 4 }, s, m, args, below, meth, c, cX12_writesSeat, 5, RX12, g, 4)) (hr : meth.sig.returnType = none) (N : Nat) : ∀ (n : Nat) (M : kMem) (a0 : Nat) (x3 : Int32) (x4 : Int32), GG (p, l, e, { frames := 2 * 4, cells := 0, slots := 0, locals := 60 * 4 }, s, m, args, below, meth, c, cX12_writesSeat, 5, RX12, g, 4) (fun b => MQ below (kQ g ((fun r : kMem => (none, r)) b)) args s 0 0 (kZ g.2.2.1)) 0 0 (F_X12_writesSeat_22 N n M a0 x3 x4) 22 [(0, .ref a0), (3, .int x3), (4, .int x4)] [] M := by
  intro n
  induction n with
  | zero => intro _ _ _ _; exact g_none
  | succ n ih =>
    intro M a0 x3 x4
    unfold F_X12_writesSeat_22
    refine g_iload 24 2 hX dX12_writesSeat_22 rfl rfl ?_
    refine g_aload_n 25 0 hX dX12_writesSeat_24 rfl rfl ?_
    refine g_iload_n 26 1 hX dX12_writesSeat_25 rfl rfl ?_
    refine g_iconst 27 hX 0 dX12_writesSeat_26 rfl kc_i_0 ?_
    refine g_callV_ip 30 hX (k_X12_has l g N M a0 x3 0) lk_X12_has rfl (ci := 12) rfl (Nat.le_of_ble_eq_true rfl) q_1635 q_40 (by omega) rfl (Nat.le_of_ble_eq_true rfl) (Nat.zero_le _) (Nat.zero_le _) dX12_writesSeat_27 rfl (fun r2 => ?_)
    refine g_callS_ip 33 hX (k_X12_lettersOf l g N M r2) lk_X12_lettersOf q_2232 (by omega) rfl (Nat.le_of_ble_eq_true rfl) (Nat.zero_le _) (Nat.zero_le _) dX12_writesSeat_30 rfl (fun r3 => ?_)
    refine g_icmp_ge 57 36 hX dX12_writesSeat_33 (by decide) rfl (fun _ => ?_) (fun _ => ?_)
    · exact g_vret hX hr rfl (Nat.le_refl 0) (Nat.le_refl 0) dX12_writesSeat_57
    · refine g_aload_n 37 0 hX dX12_writesSeat_36 rfl rfl ?_
      refine g_aload_n 38 0 hX dX12_writesSeat_37 rfl rfl ?_
      refine g_iload_n 39 1 hX dX12_writesSeat_38 rfl rfl ?_
      refine g_iconst 40 hX 0 dX12_writesSeat_39 rfl kc_i_0 ?_
      refine g_callV_ip 43 hX (k_X12_has l g N M a0 x3 0) lk_X12_has rfl (ci := 12) rfl (Nat.le_of_ble_eq_true rfl) q_1635 q_40 (by omega) rfl (Nat.le_of_ble_eq_true rfl) (Nat.zero_le _) (Nat.zero_le _) dX12_writesSeat_40 rfl (fun r4 => ?_)
      refine g_iload 45 2 hX dX12_writesSeat_43 rfl rfl ?_
      refine g_callS_ip 48 hX (k_X12_letterOf l g N M r4 x4) lk_X12_letterOf q_2229 (by omega) rfl (Nat.le_of_ble_eq_true rfl) (Nat.zero_le _) (Nat.zero_le _) dX12_writesSeat_45 rfl (fun r5 => ?_)
      refine g_callV_v 51 hX (k_X12_writes l g N M a0 r5) lk_X12_writes rfl (ci := 12) rfl (Nat.le_of_ble_eq_true rfl) q_2380 q_126 (by omega) rfl (Nat.le_of_ble_eq_true rfl) (Nat.zero_le _) (Nat.zero_le _) dX12_writesSeat_48 rfl (fun M6 => ?_)
      refine g_kl (fun v7 hv7 => ?_)
      refine g_iinc 54 4 2 v7 [(4, .int v7), (0, .ref a0), (3, .int x3)] hX dX12_writesSeat_51 rfl rfl (by rw [hv7, kc_i_1]) (Nat.le_of_ble_eq_true rfl) rfl ?_
      refine g_goto 22 hX dX12_writesSeat_54 (by decide) ?_
      refine g_lv [1, 2, 0] rfl ?_
      exact ih M6 a0 x3 v7
set_option maxRecDepth 100000 in
set_option maxHeartbeats 4000000 in
theorem k_X12_writesSeat (l : Launch) (g : kG) (N : Nat) (M : kMem) (a0 : Nat) (x1 : Int32) (x2 : Int32) : kMet l g yX12_writesSeat cX12_writesSeat 5 none 4 0 0 [.ref a0, .int x1, .int x2] M (fun r : kMem => (none, r)) (F_X12_writesSeat N M a0 x1 x2) := by
  refine k_of (lv := [(0, .ref a0), (1, .int x1), (2, .int x2)]) RX12 (by decide) rfl rfl (Nat.le_of_ble_eq_true rfl) ?_
  intro p e s m args below meth c hX hr _
  unfold F_X12_writesSeat
  refine g_aload_n 1 0 hX dX12_writesSeat_0 rfl rfl ?_
  refine g_iload_n 2 1 hX dX12_writesSeat_1 rfl rfl ?_
  refine g_iload_n 3 2 hX dX12_writesSeat_2 rfl rfl ?_
  refine g_callV_ip 6 hX (k_X12_onSeat l g N M a0 x1 x2) lk_X12_onSeat rfl (ci := 12) rfl (Nat.le_of_ble_eq_true rfl) q_1871 q_65 (by omega) rfl (Nat.le_of_ble_eq_true rfl) (Nat.zero_le _) (Nat.zero_le _) dX12_writesSeat_3 rfl (fun r1 => ?_)
  refine g_istore_n 7 3 [(3, .int r1), (0, .ref a0), (1, .int x1), (2, .int x2)] hX dX12_writesSeat_6 rfl rfl (Nat.le_of_ble_eq_true rfl) rfl ?_
  refine g_iload_n 8 0 hX dX12_writesSeat_7 rfl rfl ?_
  refine g_iconst 9 hX (-1) dX12_writesSeat_8 rfl kc_i_m1 ?_
  refine g_icmp_ne 19 12 hX dX12_writesSeat_9 (by decide) rfl (fun _ => ?_) (fun _ => ?_)
  · refine g_iconst 20 hX 0 dX12_writesSeat_19 rfl kc_i_0 ?_
    refine g_istore 22 4 [(4, .int 0), (3, .int r1), (0, .ref a0), (1, .int x1), (2, .int x2)] hX dX12_writesSeat_20 rfl (Nat.le_of_ble_eq_true rfl) rfl ?_
    refine g_lv [2, 1, 0] rfl ?_
    exact k_X12_writesSeat_22 hX hr N N M a0 r1 0
  · refine g_aload_n 13 1 hX dX12_writesSeat_12 rfl rfl ?_
    refine g_bipush 15 hX 46 dX12_writesSeat_13 rfl kc_b_46 ?_
    refine g_callV_v 18 hX (k_X12_writes l g N M a0 46) lk_X12_writes rfl (ci := 12) rfl (Nat.le_of_ble_eq_true rfl) q_2380 q_126 (by omega) rfl (Nat.le_of_ble_eq_true rfl) (Nat.zero_le _) (Nat.zero_le _) dX12_writesSeat_15 rfl (fun M8 => ?_)
    exact g_vret hX hr rfl (Nat.le_refl 0) (Nat.le_refl 0) dX12_writesSeat_18
set_option maxRecDepth 100000 in
set_option maxHeartbeats 4000000 in
theorem k_X12_writeBoard_51 {p : Program} {l : Launch} {e : Env} {s : State} {m : MethodId} {args : Array Value} {below : List Frame} {meth : Method} {c : Code} {g : kG} (hX : Cok (p, l, e, { frames := 2 * 5, cells := 0, slots := 0, locals := 60 * 5 }, s, m, args, below, meth, c, cX12_writeBoard, 3, RX12, g, 5)) (hr : meth.sig.returnType = (some .int)) (N : Nat) (k28 : kMem → Nat → Int32 → Int32 → Option (Int32 × kMem)) (h28 : ∀ (M : kMem) (a0 : Nat) (x1 : Int32) (x2 : Int32), GG (p, l, e, { frames := 2 * 5, cells := 0, slots := 0, locals := 60 * 5 }, s, m, args, below, meth, c, cX12_writeBoard, 3, RX12, g, 5) (fun b => MQ below (kQ g ((fun r : Int32 × kMem => (some (.int r.1), r.2)) b)) args s 0 0 (kZ g.2.2.1)) 0 0 (k28 M a0 x1 x2) 28 [(0, .ref a0), (1, .int x1), (2, .int x2)] [] M) : ∀ (M : kMem) (a0 : Nat) (x1 : Int32) (x2 : Int32), GG (p, l, e, { frames := 2 * 5, cells := 0, slots := 0, locals := 60 * 5 }, s, m, args, below, meth, c, cX12_writeBoard, 3, RX12, g, 5) (fun b => MQ below (kQ g ((fun r : Int32 × kMem => (some (.int r.1), r.2)) b)) args s 0 0 (kZ g.2.2.1)) 0 0 (F_X12_writeBoard_51 N k28 M a0 x1 x2) 51 [(0, .ref a0), (1, .int x1), (2, .int x2)] [] M := by
  intro M a0 x1 x2
  unfold F_X12_writeBoard_51
  refine g_iload_n 52 2 hX dX12_writeBoard_51 rfl rfl ?_
  refine g_if_ne 64 55 hX dX12_writeBoard_52 (by decide) rfl (fun _ => ?_) (fun _ => ?_)
  · refine g_aload_n 65 0 hX dX12_writeBoard_64 rfl rfl ?_
    refine g_iload_n 66 1 hX dX12_writeBoard_65 rfl rfl ?_
    refine g_iload_n 67 2 hX dX12_writeBoard_66 rfl rfl ?_
    refine g_callV_v 70 hX (k_X12_writesSeat l g N M a0 x1 x2) lk_X12_writesSeat rfl (ci := 12) rfl (Nat.le_of_ble_eq_true rfl) q_2384 q_127 (by omega) rfl (Nat.le_of_ble_eq_true rfl) (Nat.zero_le _) (Nat.zero_le _) dX12_writeBoard_67 rfl (fun M7 => ?_)
    refine g_kl (fun v8 hv8 => ?_)
    refine g_iinc 73 2 2 v8 [(2, .int v8), (0, .ref a0), (1, .int x1)] hX dX12_writeBoard_70 rfl rfl (by rw [hv8, kc_i_1]) (Nat.le_of_ble_eq_true rfl) rfl ?_
    refine g_goto 28 hX dX12_writeBoard_73 (by decide) ?_
    refine g_lv [1, 2, 0] rfl ?_
    exact h28 M7 a0 x1 v8
  · refine g_aload_n 56 0 hX dX12_writeBoard_55 rfl rfl ?_
    refine g_bipush 58 hX 94 dX12_writeBoard_56 rfl kc_b_94 ?_
    refine g_callV_v 61 hX (k_X12_writes l g N M a0 94) lk_X12_writes rfl (ci := 12) rfl (Nat.le_of_ble_eq_true rfl) q_2380 q_126 (by omega) rfl (Nat.le_of_ble_eq_true rfl) (Nat.zero_le _) (Nat.zero_le _) dX12_writeBoard_58 rfl (fun M9 => ?_)
    refine g_goto 70 hX dX12_writeBoard_61 (by decide) ?_
    refine g_kl (fun v10 hv10 => ?_)
    refine g_iinc 73 2 2 v10 [(2, .int v10), (0, .ref a0), (1, .int x1)] hX dX12_writeBoard_70 rfl rfl (by rw [hv10, kc_i_1]) (Nat.le_of_ble_eq_true rfl) rfl ?_
    refine g_goto 28 hX dX12_writeBoard_73 (by decide) ?_
    refine g_lv [1, 2, 0] rfl ?_
    exact h28 M9 a0 x1 v10
set_option maxRecDepth 100000 in
set_option maxHeartbeats 4000000 in
theorem k_X12_writeBoard_28 {p : Program} {l : Launch} {e : Env} {s : State} {m : MethodId} {args : Array Value} {below : List Frame} {meth : Method} {c : Code} {g : kG} (hX : Cok (p, l, e, { frames := 2 * 5, cells := 0, slots := 0, locals := 60 * 5 }, s, m, args, below, meth, c, cX12_writeBoard, 3, RX12, g, 5)) (hr : meth.sig.returnType = (some .int)) (N : Nat) : ∀ (n : Nat) (M : kMem) (a0 : Nat) (x1 : Int32) (x2 : Int32), GG (p, l, e, { frames := 2 * 5, cells := 0, slots := 0, locals := 60 * 5 }, s, m, args, below, meth, c, cX12_writeBoard, 3, RX12, g, 5) (fun b => MQ below (kQ g ((fun r : Int32 × kMem => (some (.int r.1), r.2)) b)) args s 0 0 (kZ g.2.2.1)) 0 0 (F_X12_writeBoard_28 N n M a0 x1 x2) 28 [(0, .ref a0), (1, .int x1), (2, .int x2)] [] M := by
  intro n
  induction n with
  | zero => intro _ _ _ _; exact g_none
  | succ n ih =>
    intro M a0 x1 x2
    unfold F_X12_writeBoard_28
    refine g_iload_n 29 2 hX dX12_writeBoard_28 rfl rfl ?_
    refine g_aload_n 30 0 hX dX12_writeBoard_29 rfl rfl ?_
    refine g_iload_n 31 1 hX dX12_writeBoard_30 rfl rfl ?_
    refine g_iconst 32 hX 0 dX12_writeBoard_31 rfl kc_i_0 ?_
    refine g_callV_ip 35 hX (k_X12_ofBoard l g N M a0 x1 0) lk_X12_ofBoard rfl (ci := 12) rfl (Nat.le_of_ble_eq_true rfl) q_1867 q_64 (by omega) rfl (Nat.le_of_ble_eq_true rfl) (Nat.zero_le _) (Nat.zero_le _) dX12_writeBoard_32 rfl (fun r6 => ?_)
    refine g_icmp_gt 76 38 hX dX12_writeBoard_35 (by decide) rfl (fun _ => ?_) (fun _ => ?_)
    · refine g_aload_n 77 0 hX dX12_writeBoard_76 rfl rfl ?_
      refine r_X12_484 80 hX dX12_writeBoard_77 rfl ?_
      exact g_iret hX hr rfl (Nat.le_refl 0) (Nat.le_refl 0) dX12_writeBoard_80
    · refine g_aload_n 39 0 hX dX12_writeBoard_38 rfl rfl ?_
      refine r_X12_484 42 hX dX12_writeBoard_39 rfl ?_
      refine g_if_le 51 45 hX dX12_writeBoard_42 (by decide) rfl (fun _ => ?_) (fun _ => ?_)
      · exact k_X12_writeBoard_51 hX hr N (fun M a0 x1 x2 => F_X12_writeBoard_28 N n M a0 x1 x2) ih M a0 x1 x2
      · refine g_aload_n 46 0 hX dX12_writeBoard_45 rfl rfl ?_
        refine g_bipush 48 hX 32 dX12_writeBoard_46 rfl kc_b_32 ?_
        refine g_callV_v 51 hX (k_X12_writes l g N M a0 32) lk_X12_writes rfl (ci := 12) rfl (Nat.le_of_ble_eq_true rfl) q_2380 q_126 (by omega) rfl (Nat.le_of_ble_eq_true rfl) (Nat.zero_le _) (Nat.zero_le _) dX12_writeBoard_48 rfl (fun M11 => ?_)
        exact k_X12_writeBoard_51 hX hr N (fun M a0 x1 x2 => F_X12_writeBoard_28 N n M a0 x1 x2) ih M11 a0 x1 x2
set_option maxRecDepth 100000 in
set_option maxHeartbeats 4000000 in
theorem k_X12_writeBoard (l : Launch) (g : kG) (N : Nat) (M : kMem) (a0 : Nat) (x1 : Int32) : kMet l g yX12_writeBoard cX12_writeBoard 3 (some .int) 5 0 0 [.ref a0, .int x1] M (fun r : Int32 × kMem => (some (.int r.1), r.2)) (F_X12_writeBoard N M a0 x1) := by
  refine k_of (lv := [(0, .ref a0), (1, .int x1)]) RX12 (by decide) rfl rfl (Nat.le_of_ble_eq_true rfl) ?_
  intro p e s m args below meth c hX hr _
  unfold F_X12_writeBoard
  refine g_aload_n 1 0 hX dX12_writeBoard_0 rfl rfl ?_
  refine g_iconst 2 hX 0 dX12_writeBoard_1 rfl kc_i_0 ?_
  refine p_X12_63 5 hX dX12_writeBoard_2 rfl ?_
  refine g_klM (fun M1 hM1 => ?_)
  refine g_aload_n 6 0 hX dX12_writeBoard_5 rfl rfl ?_
  refine g_iload_n 7 1 hX dX12_writeBoard_6 rfl rfl ?_
  refine g_callV_i 10 hX (k_X12_noBoard l g N M1 a0 x1) lk_X12_noBoard rfl (ci := 12) rfl (Nat.le_of_ble_eq_true rfl) q_2102 q_113 (by omega) rfl (Nat.le_of_ble_eq_true rfl) (Nat.zero_le _) (Nat.zero_le _) dX12_writeBoard_7 rfl (fun r2 => ?_)
  refine g_if_eq 15 13 hX dX12_writeBoard_10 (by decide) rfl (fun _ => ?_) (fun _ => ?_)
  · refine g_aload_n 16 0 hX dX12_writeBoard_15 rfl rfl ?_
    refine g_iconst 17 hX 0 dX12_writeBoard_16 rfl kc_i_0 ?_
    refine p_X12_484 20 hX dX12_writeBoard_17 rfl ?_
    refine g_klM (fun M3 hM3 => ?_)
    refine g_aload_n 21 0 hX dX12_writeBoard_20 rfl rfl ?_
    refine g_iload_n 22 1 hX dX12_writeBoard_21 rfl rfl ?_
    refine g_iconst 23 hX 0 dX12_writeBoard_22 rfl kc_i_0 ?_
    refine g_callV_ip 26 hX (k_X12_ofBoard l g N M3 a0 x1 0) lk_X12_ofBoard rfl (ci := 12) rfl (Nat.le_of_ble_eq_true rfl) q_1867 q_64 (by omega) rfl (Nat.le_of_ble_eq_true rfl) (Nat.zero_le _) (Nat.zero_le _) dX12_writeBoard_23 rfl (fun r4 => ?_)
    refine g_ineg 27 hX dX12_writeBoard_26 rfl ?_
    refine g_klI (fun v5 hv5 => ?_)
    refine g_istore_n 28 2 [(2, .int v5), (0, .ref a0), (1, .int x1)] hX dX12_writeBoard_27 rfl rfl (Nat.le_of_ble_eq_true rfl) rfl ?_
    refine g_lv [1, 2, 0] rfl ?_
    exact k_X12_writeBoard_28 hX hr N N M3 a0 x1 v5
  · refine g_iconst 14 hX 0 dX12_writeBoard_13 rfl kc_i_0 ?_
    exact g_iret hX hr rfl (Nat.le_refl 0) (Nat.le_refl 0) dX12_writeBoard_14
set_option maxRecDepth 100000 in
set_option maxHeartbeats 4000000 in
theorem k_X12_outputByte (l : Launch) (g : kG) (N : Nat) (M : kMem) (a0 : Nat) (x1 : Int32) : kMet l g yX12_outputByte cX12_outputByte 2 (some .int) 2 0 0 [.ref a0, .int x1] M (fun r : Int32 × kMem => (some (.int r.1), r.2)) (F_X12_outputByte N M a0 x1) := by
  refine k_of (lv := [(0, .ref a0), (1, .int x1)]) RX12 (by decide) rfl rfl (Nat.le_of_ble_eq_true rfl) ?_
  intro p e s m args below meth c hX hr _
  unfold F_X12_outputByte
  refine g_aload_n 1 0 hX dX12_outputByte_0 rfl rfl ?_
  refine g_iconst 2 hX 0 dX12_outputByte_1 rfl kc_i_0 ?_
  refine p_X12_63 5 hX dX12_outputByte_2 rfl ?_
  refine g_klM (fun M1 hM1 => ?_)
  refine g_iload_n 6 1 hX dX12_outputByte_5 rfl rfl ?_
  refine g_i2l 7 hX dX12_outputByte_6 rfl ?_
  refine g_lconst 8 hX 0 dX12_outputByte_7 rfl rfl ?_
  refine g_aload_n 9 0 hX dX12_outputByte_8 rfl rfl ?_
  refine r_X12_484 12 hX dX12_outputByte_9 rfl ?_
  refine g_iconst 13 hX 1 dX12_outputByte_12 rfl kc_i_1 ?_
  refine g_isub 14 hX dX12_outputByte_13 rfl ?_
  refine g_i2l 15 hX dX12_outputByte_14 rfl ?_
  refine g_callS_ip 18 hX (k_X12_in l g N M1 x1.toInt64 0 (((kI M1 a0 29) - 1).toInt64)) lk_X12_in q_1754 (by omega) rfl (Nat.le_of_ble_eq_true rfl) (Nat.zero_le _) (Nat.zero_le _) dX12_outputByte_15 rfl (fun r2 => ?_)
  refine g_if_eq 30 21 hX dX12_outputByte_18 (by decide) rfl (fun _ => ?_) (fun _ => ?_)
  · refine g_iconst 31 hX (-1) dX12_outputByte_30 rfl kc_i_m1 ?_
    exact g_iret hX hr rfl (Nat.le_refl 0) (Nat.le_refl 0) dX12_outputByte_31
  · refine g_aload_n 22 0 hX dX12_outputByte_21 rfl rfl ?_
    refine r_X12_45 25 hX dX12_outputByte_22 rfl ?_
    refine g_iload_n 26 1 hX dX12_outputByte_25 rfl rfl ?_
    refine g_iald 27 hX dX12_outputByte_26 rfl ?_
    refine g_goto 31 hX dX12_outputByte_27 (by decide) ?_
    exact g_iret hX hr rfl (Nat.le_refl 0) (Nat.le_refl 0) dX12_outputByte_31
